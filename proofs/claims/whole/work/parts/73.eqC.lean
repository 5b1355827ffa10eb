/-! ===== written by a program: each function, unfolded once ===== -/
set_option maxRecDepth 20000 in
theorem e_f_Mod_restore (G : GG) : f_Mod_restore  G =
  if G 25 0 4 = 0 then
    if (up G 25 0 6 1) 25 0 6 = 0 then
      bV (f_Mod_copies_msaved_ms (up G 25 0 6 1)) fun G1 =>
      rI ((up (up G1 25 0 5 0) 25 0 11 0) 26 0 0) (up (up G1 25 0 5 0) 25 0 11 0)
    else
    rI 0 (up G 25 0 6 1)
  else
  if (up G 25 0 6 0) 25 0 6 = 0 then
    bV (f_Mod_copies_msaved_ms (up G 25 0 6 0)) fun G2 =>
    rI ((up (up G2 25 0 5 0) 25 0 11 0) 26 0 0) (up (up G2 25 0 5 0) 25 0 11 0)
  else
  rI 0 (up G 25 0 6 0) := (run_fix _ _ _ _ _).trans rfl
set_option maxRecDepth 20000 in
theorem e_f_Mod_thrown (G : GG) : f_Mod_thrown  G =
  rI (G 25 0 6) G := (run_fix _ _ _ _ _).trans rfl
set_option maxRecDepth 20000 in
theorem e_f_Mod_save (G : GG) : f_Mod_save  G =
  bV (f_Mod_copies_ms_msaved (up G 25 0 6 0)) fun G1 =>
  rI ((up G1 25 0 4 1) 26 0 0) (up G1 25 0 4 1) := (run_fix _ _ _ _ _).trans rfl
set_option maxRecDepth 20000 in
theorem e_f_Mod_undo (G : GG) : f_Mod_undo  G =
  if G 25 0 5 = 0 then
    if (up G 25 0 6 1) 25 0 6 = 0 then
      l_Mod_undo_37 0 (up (up G 25 0 6 1) 25 0 5 (wr (((up G 25 0 6 1) 25 0 5) - 1)))
    else
    rI 0 (up G 25 0 6 1)
  else
  if (up G 25 0 6 0) 25 0 6 = 0 then
    l_Mod_undo_37 0 (up (up G 25 0 6 0) 25 0 5 (wr (((up G 25 0 6 0) 25 0 5) - 1)))
  else
  rI 0 (up G 25 0 6 0) := (run_fix _ _ _ _ _).trans rfl
set_option maxRecDepth 20000 in
theorem e_l_Mod_undo_37 (x1 : Int) (G : GG) : l_Mod_undo_37 x1 G =
  if x1 < 296 then
    if 0 ≤ wr ((wr (296 * (G 25 0 5))) + x1) ∧ wr ((wr (296 * (G 25 0 5))) + x1) < 2368 then
    if 0 ≤ x1 ∧ x1 < 296 then
    l_Mod_undo_37 (wr (x1 + 1)) (up G 26 0 x1 (G 29 0 (wr ((wr (296 * (G 25 0 5))) + x1))))
    else none
    else none
  else
  rI ((up G 25 0 11 0) 25 0 5) (up G 25 0 11 0) := (run_fix _ _ _ _ _).trans rfl
set_option maxRecDepth 20000 in
theorem e_f_Mod_describe (x1 : Int) (x2 : Int) (x3 : Int) (G : GG) : f_Mod_describe x1 x2 x3 G =
  bI (f_Mod_isLevel x1 G) fun r2 G1 =>
  if r2 = 0 then
    if (up G1 25 0 6 1) 25 0 6 = 0 then
      bV (f_Mod_looks x1 (up G1 25 0 6 1)) fun G3 =>
      bV (f_Mod_tells 76 (up G3 25 0 25 0)) fun G4 =>
      l_Mod_describe_59 x2 x3 (wr (10 * x2)) G4
    else
    rI 0 (up G1 25 0 6 1)
  else
  bI (f_Mod_isLine x2 G1) fun r6 G5 =>
  if r6 = 0 then
    if (up G5 25 0 6 2) 25 0 6 = 0 then
      bV (f_Mod_looks x1 (up G5 25 0 6 2)) fun G7 =>
      bV (f_Mod_tells 76 (up G7 25 0 25 0)) fun G8 =>
      l_Mod_describe_59 x2 x3 (wr (10 * x2)) G8
    else
    rI 0 (up G5 25 0 6 2)
  else
  if (up G5 25 0 6 0) 25 0 6 = 0 then
    bV (f_Mod_looks x1 (up G5 25 0 6 0)) fun G9 =>
    bV (f_Mod_tells 76 (up G9 25 0 25 0)) fun G10 =>
    l_Mod_describe_59 x2 x3 (wr (10 * x2)) G10
  else
  rI 0 (up G5 25 0 6 0) := (run_fix _ _ _ _ _).trans rfl
set_option maxRecDepth 20000 in
theorem e_l_Mod_describe_59 (x2 : Int) (x3 : Int) (x4 : Int) (G : GG) : l_Mod_describe_59 x2 x3 x4 G =
  if 0 ≤ x2 ∧ x2 < 6 then
  if x4 < wr ((wr (10 * x2)) + (G 30 0 x2)) then
    if wr (10 * x2) < x4 then
      bV (f_Mod_tells 45 G) fun G1 =>
      if 0 ≤ x4 ∧ x4 < 60 then
      bV (f_Mod_tellsNumber (G1 31 0 x4) G1) fun G2 =>
      bV (f_Mod_tells 44 G2) fun G3 =>
      if 0 ≤ x4 ∧ x4 < 60 then
      bV (f_Mod_tellsNumber (G3 32 0 x4) G3) fun G4 =>
      l_Mod_describe_59 x2 x3 (wr (x4 + 1)) G4
      else none
      else none
    else
    if 0 ≤ x4 ∧ x4 < 60 then
    bV (f_Mod_tellsNumber (G 31 0 x4) G) fun G5 =>
    bV (f_Mod_tells 44 G5) fun G6 =>
    if 0 ≤ x4 ∧ x4 < 60 then
    bV (f_Mod_tellsNumber (G6 32 0 x4) G6) fun G7 =>
    l_Mod_describe_59 x2 x3 (wr (x4 + 1)) G7
    else none
    else none
  else
  bV (f_Mod_tells 59 G) fun G8 =>
  bI (f_Mod_isIn x3 (-1) (wr ((G8 25 0 25) - 1)) G8) fun r10 G9 =>
  if r10 = 0 then
    if (up G9 25 0 6 3) 25 0 6 = 0 then
      if x3 < 0 then
        rI ((up G9 25 0 6 3) 25 0 25) (up G9 25 0 6 3)
      else
      if 0 ≤ x3 ∧ x3 < 80 then
      rI ((up G9 25 0 6 3) 41 0 x3) (up G9 25 0 6 3)
      else none
    else
    rI 0 (up G9 25 0 6 3)
  else
  if (up G9 25 0 6 0) 25 0 6 = 0 then
    if x3 < 0 then
      rI ((up G9 25 0 6 0) 25 0 25) (up G9 25 0 6 0)
    else
    if 0 ≤ x3 ∧ x3 < 80 then
    rI ((up G9 25 0 6 0) 41 0 x3) (up G9 25 0 6 0)
    else none
  else
  rI 0 (up G9 25 0 6 0)
  else none := (run_fix _ _ _ _ _).trans rfl
set_option maxRecDepth 20000 in
theorem e_f_Mod_errorPosition (G : GG) : f_Mod_errorPosition  G =
  if G 25 0 23 < 0 then
    rI (mMax 0 ((up G 25 0 6 1) 25 0 23)) (up G 25 0 6 1)
  else
  rI (mMax 0 ((up G 25 0 6 0) 25 0 23)) (up G 25 0 6 0) := (run_fix _ _ _ _ _).trans rfl
set_option maxRecDepth 20000 in
theorem e_f_Mod_read (G : GG) : f_Mod_read  G =
  bI (f_Mod_takesAll G) fun r2 G1 =>
  if r2 = 0 then
    if (up (up G1 25 0 19 0) 25 0 6 1) 25 0 6 = 0 then
      bV (f_Mod_copies_ms_mdraft (up (up G1 25 0 19 0) 25 0 6 1)) fun G3 =>
      l_Mod_read_58 0 (up G3 25 0 20 0)
    else
    rI 0 (up (up (up G1 25 0 19 0) 25 0 6 1) 25 0 23 ((up (up G1 25 0 19 0) 25 0 6 1) 25 0 20))
  else
  if (up (up G1 25 0 19 0) 25 0 6 0) 25 0 6 = 0 then
    bV (f_Mod_copies_ms_mdraft (up (up G1 25 0 19 0) 25 0 6 0)) fun G4 =>
    l_Mod_read_58 0 (up G4 25 0 20 0)
  else
  rI 0 (up (up (up G1 25 0 19 0) 25 0 6 0) 25 0 23 ((up (up G1 25 0 19 0) 25 0 6 0) 25 0 20)) := (run_fix _ _ _ _ _).trans rfl
set_option maxRecDepth 20000 in
theorem e_l_Mod_read_58 (x2 : Int) (G : GG) : l_Mod_read_58 x2 G =
  if x2 < G 25 0 22 then
    if G 25 0 6 = 0 then
      bI (f_Mod_does G) fun r2 G1 =>
      l_Mod_read_58 (wr (x2 + 1)) (up G1 25 0 6 r2)
    else
    if G 25 0 6 = 0 then
      bV (f_Mod_swaps G) fun G3 =>
      bV (f_Mod_keeps G3) fun G4 =>
      bV (f_Mod_swaps G4) fun G5 =>
      rI (G5 25 0 22) G5
    else
    bV (f_Mod_copies_mdraft_ms G) fun G6 =>
    rI 0 G6
  else
  if G 25 0 6 = 0 then
    bV (f_Mod_swaps G) fun G7 =>
    bV (f_Mod_keeps G7) fun G8 =>
    bV (f_Mod_swaps G8) fun G9 =>
    rI (G9 25 0 22) G9
  else
  bV (f_Mod_copies_mdraft_ms G) fun G10 =>
  rI 0 G10 := (run_fix _ _ _ _ _).trans rfl
set_option maxRecDepth 20000 in
theorem e_f_Mod_append (x1 : Int) (G : GG) : f_Mod_append x1 G =
  bI (f_Mod_isIn x1 32 126 G) fun r2 G1 =>
  if r2 = 0 then
    if (up G1 25 0 6 1) 25 0 6 = 0 then
      if 0 ≤ (up G1 25 0 6 1) 25 0 19 ∧ (up G1 25 0 6 1) 25 0 19 < 60 then
      rI ((up (up (up G1 25 0 6 1) 39 0 ((up G1 25 0 6 1) 25 0 19) x1) 25 0 19 (wr (((up (up G1 25 0 6 1) 39 0 ((up G1 25 0 6 1) 25 0 19) x1) 25 0 19) + 1))) 25 0 19) (up (up (up G1 25 0 6 1) 39 0 ((up G1 25 0 6 1) 25 0 19) x1) 25 0 19 (wr (((up (up G1 25 0 6 1) 39 0 ((up G1 25 0 6 1) 25 0 19) x1) 25 0 19) + 1)))
      else none
    else
    rI 0 (up G1 25 0 6 1)
  else
  if G1 25 0 19 = 60 then
    if (up G1 25 0 6 2) 25 0 6 = 0 then
      if 0 ≤ (up G1 25 0 6 2) 25 0 19 ∧ (up G1 25 0 6 2) 25 0 19 < 60 then
      rI ((up (up (up G1 25 0 6 2) 39 0 ((up G1 25 0 6 2) 25 0 19) x1) 25 0 19 (wr (((up (up G1 25 0 6 2) 39 0 ((up G1 25 0 6 2) 25 0 19) x1) 25 0 19) + 1))) 25 0 19) (up (up (up G1 25 0 6 2) 39 0 ((up G1 25 0 6 2) 25 0 19) x1) 25 0 19 (wr (((up (up G1 25 0 6 2) 39 0 ((up G1 25 0 6 2) 25 0 19) x1) 25 0 19) + 1)))
      else none
    else
    rI 0 (up G1 25 0 6 2)
  else
  if (up G1 25 0 6 0) 25 0 6 = 0 then
    if 0 ≤ (up G1 25 0 6 0) 25 0 19 ∧ (up G1 25 0 6 0) 25 0 19 < 60 then
    rI ((up (up (up G1 25 0 6 0) 39 0 ((up G1 25 0 6 0) 25 0 19) x1) 25 0 19 (wr (((up (up G1 25 0 6 0) 39 0 ((up G1 25 0 6 0) 25 0 19) x1) 25 0 19) + 1))) 25 0 19) (up (up (up G1 25 0 6 0) 39 0 ((up G1 25 0 6 0) 25 0 19) x1) 25 0 19 (wr (((up (up G1 25 0 6 0) 39 0 ((up G1 25 0 6 0) 25 0 19) x1) 25 0 19) + 1)))
    else none
  else
  rI 0 (up G1 25 0 6 0) := (run_fix _ _ _ _ _).trans rfl
set_option maxRecDepth 20000 in
theorem e_f_Mod_placedOn (x1 : Int) (G : GG) : f_Mod_placedOn x1 G =
  bI (f_Mod_isPoint x1 G) fun r2 G1 =>
  if r2 = 0 then
    l_Mod_placedOn_21 x1 0 0 (up G1 25 0 6 1)
  else
  l_Mod_placedOn_21 x1 0 0 (up G1 25 0 6 0) := (run_fix _ _ _ _ _).trans rfl
set_option maxRecDepth 20000 in
theorem e_l_Mod_placedOn_21 (x1 : Int) (x2 : Int) (x3 : Int) (G : GG) : l_Mod_placedOn_21 x1 x2 x3 G =
  if x3 < 5 then
    if G 25 0 6 = 0 then
      bI (f_Mod_placeOf x3 x1 G) fun r2 G1 =>
      if r2 < 0 then
        l_Mod_placedOn_21 x1 (bOr x2 0) (wr (x3 + 1)) G1
      else
      l_Mod_placedOn_21 x1 (bOr x2 (bShl 1 x3)) (wr (x3 + 1)) G1
    else
    rI x2 G
  else
  rI x2 G := (run_fix _ _ _ _ _).trans rfl
set_option maxRecDepth 20000 in
theorem e_f_Mod_placedShare (x1 : Int) (G : GG) : f_Mod_placedShare x1 G =
  bI (f_Mod_isLevel x1 G) fun r2 G1 =>
  if r2 = 0 then
    if (up G1 25 0 6 1) 25 0 6 = 0 then
      bI (f_Mod_placed x1 (up G1 25 0 6 1)) fun r4 G3 =>
      bI (f_Mod_shownOnes x1 G3) fun r6 G5 =>
      bI (f_Mod_bits r6 G5) fun r8 G7 =>
      if FP.ddiv (dOf r4) (dOf r8) &&& 0x7fffffffffffffff ≤ 0x7ff0000000000000 then
      rD (FP.ddiv (dOf r4) (dOf r8)) G7
      else none
    else
    rD FP.dconst0 (up G1 25 0 6 1)
  else
  bI (f_Mod_shownOnes x1 G1) fun r10 G9 =>
  if r10 = 0 then
    if (up G9 25 0 6 2) 25 0 6 = 0 then
      bI (f_Mod_placed x1 (up G9 25 0 6 2)) fun r12 G11 =>
      bI (f_Mod_shownOnes x1 G11) fun r14 G13 =>
      bI (f_Mod_bits r14 G13) fun r16 G15 =>
      if FP.ddiv (dOf r12) (dOf r16) &&& 0x7fffffffffffffff ≤ 0x7ff0000000000000 then
      rD (FP.ddiv (dOf r12) (dOf r16)) G15
      else none
    else
    rD FP.dconst0 (up G9 25 0 6 2)
  else
  if (up G9 25 0 6 0) 25 0 6 = 0 then
    bI (f_Mod_placed x1 (up G9 25 0 6 0)) fun r18 G17 =>
    bI (f_Mod_shownOnes x1 G17) fun r20 G19 =>
    bI (f_Mod_bits r20 G19) fun r22 G21 =>
    if FP.ddiv (dOf r18) (dOf r22) &&& 0x7fffffffffffffff ≤ 0x7ff0000000000000 then
    rD (FP.ddiv (dOf r18) (dOf r22)) G21
    else none
  else
  rD FP.dconst0 (up G9 25 0 6 0) := (run_fix _ _ _ _ _).trans rfl
set_option maxRecDepth 20000 in
theorem e_f_Mod_covered (x1 : Int) (G : GG) : f_Mod_covered x1 G =
  bI (f_Mod_isLevel x1 G) fun r2 G1 =>
  if r2 = 0 then
    l_Mod_covered_20 x1 0 0 (up G1 25 0 6 1)
  else
  l_Mod_covered_20 x1 0 0 (up G1 25 0 6 0) := (run_fix _ _ _ _ _).trans rfl
set_option maxRecDepth 20000 in
theorem e_l_Mod_covered_20 (x1 : Int) (x2 : Int) (x3 : Int) (G : GG) : l_Mod_covered_20 x1 x2 x3 G =
  if x3 < G 26 0 127 then
    if G 25 0 6 = 0 then
      bI (f_Mod_placeOf x1 x3 G) fun r2 G1 =>
      if r2 < 0 then
        l_Mod_covered_20 x1 (wr (x2 + 0)) (wr (x3 + 1)) G1
      else
      bI (f_Mod_ofPoint x3 3 G1) fun r4 G3 =>
      bI (f_Mod_ofPoint x3 4 G3) fun r6 G5 =>
      l_Mod_covered_20 x1 (wr (x2 + (wr (r4 * r6)))) (wr (x3 + 1)) G5
    else
    rI x2 G
  else
  rI x2 G := (run_fix _ _ _ _ _).trans rfl
set_option maxRecDepth 20000 in
theorem e_f_Mod_labelAt (x1 : Int) (x2 : Int) (x3 : Int) (G : GG) : f_Mod_labelAt x1 x2 x3 G =
  bI (f_Mod_isLevel x1 G) fun r2 G1 =>
  if r2 = 0 then
    l_Mod_labelAt_30 x1 x2 x3 (-1) 0 (up G1 25 0 6 1)
  else
  bI (f_Mod_isPlace x2 x3 G1) fun r4 G3 =>
  if r4 = 0 then
    l_Mod_labelAt_30 x1 x2 x3 (-1) 0 (up G3 25 0 6 1)
  else
  l_Mod_labelAt_30 x1 x2 x3 (-1) 0 (up G3 25 0 6 0) := (run_fix _ _ _ _ _).trans rfl
set_option maxRecDepth 20000 in
theorem e_l_Mod_labelAt_30 (x1 : Int) (x2 : Int) (x3 : Int) (x4 : Int) (x5 : Int) (G : GG) : l_Mod_labelAt_30 x1 x2 x3 x4 x5 G =
  if x5 < G 26 0 127 then
    if G 25 0 6 = 0 then
      bI (f_Mod_placeOf x1 x5 G) fun r2 G1 =>
      if r2 < 0 then
        l_Mod_labelAt_30 x1 x2 x3 x4 (wr (x5 + 1)) G1
      else
      bI (f_Mod_placeOf x1 x5 G1) fun r4 G3 =>
      bI (f_Mod_covers x5 r4 x2 x3 G3) fun r6 G5 =>
      if r6 = 0 then
        l_Mod_labelAt_30 x1 x2 x3 x4 (wr (x5 + 1)) G5
      else
      l_Mod_labelAt_30 x1 x2 x3 x5 (wr (x5 + 1)) G5
    else
    if G 25 0 6 = 0 then
      rI x4 G
    else
    rI 0 G
  else
  if G 25 0 6 = 0 then
    rI x4 G
  else
  rI 0 G := (run_fix _ _ _ _ _).trans rfl
set_option maxRecDepth 20000 in
theorem e_f_Mod_labels (x1 : Int) (G : GG) : f_Mod_labels x1 G =
  bI (f_Mod_isLevel x1 G) fun r2 G1 =>
  if r2 = 0 then
    if (up G1 25 0 6 1) 25 0 6 = 0 then
      bI (f_Mod_placed x1 (up G1 25 0 6 1)) fun r4 G3 =>
      rI r4 G3
    else
    rI 0 (up G1 25 0 6 1)
  else
  if (up G1 25 0 6 0) 25 0 6 = 0 then
    bI (f_Mod_placed x1 (up G1 25 0 6 0)) fun r6 G5 =>
    rI r6 G5
  else
  rI 0 (up G1 25 0 6 0) := (run_fix _ _ _ _ _).trans rfl
set_option maxRecDepth 20000 in
theorem e_f_Mod_refusal (x1 : Int) (x2 : Int) (x3 : Int) (G : GG) : f_Mod_refusal x1 x2 x3 G =
  bI (f_Mod_isLevel x1 G) fun r2 G1 =>
  if r2 = 0 then
    if (up G1 25 0 6 1) 25 0 6 = 0 then
      bV (f_Mod_looks x1 (up G1 25 0 6 1)) fun G3 =>
      bI (f_Mod_refused x1 x2 x3 G3) fun r5 G4 =>
      rI r5 G4
    else
    rI 0 (up G1 25 0 6 1)
  else
  bI (f_Mod_isIn x3 0 3 G1) fun r7 G6 =>
  if r7 = 0 then
    if (up G6 25 0 6 1) 25 0 6 = 0 then
      bV (f_Mod_looks x1 (up G6 25 0 6 1)) fun G8 =>
      bI (f_Mod_refused x1 x2 x3 G8) fun r10 G9 =>
      rI r10 G9
    else
    rI 0 (up G6 25 0 6 1)
  else
  bI (f_Mod_isPoint x2 G6) fun r12 G11 =>
  if r12 = 0 then
    if (up G11 25 0 6 2) 25 0 6 = 0 then
      bV (f_Mod_looks x1 (up G11 25 0 6 2)) fun G13 =>
      bI (f_Mod_refused x1 x2 x3 G13) fun r15 G14 =>
      rI r15 G14
    else
    rI 0 (up G11 25 0 6 2)
  else
  bI (f_Mod_isShown x1 x2 G11) fun r17 G16 =>
  if r17 = 0 then
    if (up G16 25 0 6 3) 25 0 6 = 0 then
      bV (f_Mod_looks x1 (up G16 25 0 6 3)) fun G18 =>
      bI (f_Mod_refused x1 x2 x3 G18) fun r20 G19 =>
      rI r20 G19
    else
    rI 0 (up G16 25 0 6 3)
  else
  if (up G16 25 0 6 0) 25 0 6 = 0 then
    bV (f_Mod_looks x1 (up G16 25 0 6 0)) fun G21 =>
    bI (f_Mod_refused x1 x2 x3 G21) fun r23 G22 =>
    rI r23 G22
  else
  rI 0 (up G16 25 0 6 0) := (run_fix _ _ _ _ _).trans rfl
set_option maxRecDepth 20000 in
theorem e_f_Mod_position (x1 : Int) (x2 : Int) (G : GG) : f_Mod_position x1 x2 G =
  bI (f_Mod_isLevel x1 G) fun r2 G1 =>
  if r2 = 0 then
    if (up G1 25 0 6 1) 25 0 6 = 0 then
      bI (f_Mod_placeOf x1 x2 (up G1 25 0 6 1)) fun r4 G3 =>
      rI r4 G3
    else
    rI 0 (up G1 25 0 6 1)
  else
  bI (f_Mod_isPoint x2 G1) fun r6 G5 =>
  if r6 = 0 then
    if (up G5 25 0 6 2) 25 0 6 = 0 then
      bI (f_Mod_placeOf x1 x2 (up G5 25 0 6 2)) fun r8 G7 =>
      rI r8 G7
    else
    rI 0 (up G5 25 0 6 2)
  else
  if (up G5 25 0 6 0) 25 0 6 = 0 then
    bI (f_Mod_placeOf x1 x2 (up G5 25 0 6 0)) fun r10 G9 =>
    rI r10 G9
  else
  rI 0 (up G5 25 0 6 0) := (run_fix _ _ _ _ _).trans rfl
set_option maxRecDepth 20000 in
theorem e_f_Mod_shown (x1 : Int) (G : GG) : f_Mod_shown x1 G =
  bI (f_Mod_isLevel x1 G) fun r2 G1 =>
  if r2 = 0 then
    if (up G1 25 0 6 1) 25 0 6 = 0 then
      bI (f_Mod_shownOnes x1 (up G1 25 0 6 1)) fun r4 G3 =>
      rI r4 G3
    else
    rI 0 (up G1 25 0 6 1)
  else
  if (up G1 25 0 6 0) 25 0 6 = 0 then
    bI (f_Mod_shownOnes x1 (up G1 25 0 6 0)) fun r6 G5 =>
    rI r6 G5
  else
  rI 0 (up G1 25 0 6 0) := (run_fix _ _ _ _ _).trans rfl
set_option maxRecDepth 20000 in
theorem e_f_Mod_outline (x1 : Int) (x2 : Int) (G : GG) : f_Mod_outline x1 x2 G =
  bI (f_Mod_isLevel x1 G) fun r2 G1 =>
  if r2 = 0 then
    if (up G1 25 0 6 1) 25 0 6 = 0 then
      bV (f_Mod_knows (up G1 25 0 6 1)) fun G3 =>
      l_Mod_outline_43 x1 x2 0 0 G3
    else
    rI 0 (up G1 25 0 6 1)
  else
  bI (f_Mod_isIn x2 0 3 G1) fun r5 G4 =>
  if r5 = 0 then
    if (up G4 25 0 6 1) 25 0 6 = 0 then
      bV (f_Mod_knows (up G4 25 0 6 1)) fun G6 =>
      l_Mod_outline_43 x1 x2 0 0 G6
    else
    rI 0 (up G4 25 0 6 1)
  else
  if (up G4 25 0 6 0) 25 0 6 = 0 then
    bV (f_Mod_knows (up G4 25 0 6 0)) fun G7 =>
    l_Mod_outline_43 x1 x2 0 0 G7
  else
  rI 0 (up G4 25 0 6 0) := (run_fix _ _ _ _ _).trans rfl
set_option maxRecDepth 20000 in
theorem e_l_Mod_outline_43 (x1 : Int) (x2 : Int) (x3 : Int) (x4 : Int) (G : GG) : l_Mod_outline_43 x1 x2 x3 x4 G =
  if x4 < 64 then
    bI (f_Mod_isOfClass x1 x4 x2 G) fun r2 G1 =>
    if iRem x4 8 < 7 then
      bI (f_Mod_isOfClass x1 (wr (x4 + 1)) x2 G1) fun r4 G3 =>
      if r2 = r4 then
        if x4 < 56 then
          bI (f_Mod_isOfClass x1 (wr (x4 + 8)) x2 G3) fun r6 G5 =>
          if r2 = r6 then
            l_Mod_outline_43 x1 x2 (wr ((wr (x3 + 0)) + 0)) (wr (x4 + 1)) G5
          else
          l_Mod_outline_43 x1 x2 (wr ((wr (x3 + 0)) + 1)) (wr (x4 + 1)) G5
        else
        l_Mod_outline_43 x1 x2 (wr ((wr (x3 + 0)) + 0)) (wr (x4 + 1)) G3
      else
      if x4 < 56 then
        bI (f_Mod_isOfClass x1 (wr (x4 + 8)) x2 G3) fun r8 G7 =>
        if r2 = r8 then
          l_Mod_outline_43 x1 x2 (wr ((wr (x3 + 1)) + 0)) (wr (x4 + 1)) G7
        else
        l_Mod_outline_43 x1 x2 (wr ((wr (x3 + 1)) + 1)) (wr (x4 + 1)) G7
      else
      l_Mod_outline_43 x1 x2 (wr ((wr (x3 + 1)) + 0)) (wr (x4 + 1)) G3
    else
    if x4 < 56 then
      bI (f_Mod_isOfClass x1 (wr (x4 + 8)) x2 G1) fun r10 G9 =>
      if r2 = r10 then
        l_Mod_outline_43 x1 x2 (wr ((wr (x3 + 0)) + 0)) (wr (x4 + 1)) G9
      else
      l_Mod_outline_43 x1 x2 (wr ((wr (x3 + 0)) + 1)) (wr (x4 + 1)) G9
    else
    l_Mod_outline_43 x1 x2 (wr ((wr (x3 + 0)) + 0)) (wr (x4 + 1)) G1
  else
  rI x3 G := (run_fix _ _ _ _ _).trans rfl
set_option maxRecDepth 20000 in
theorem e_f_Mod_leftOver (x1 : Int) (G : GG) : f_Mod_leftOver x1 G =
  bI (f_Mod_isLevel x1 G) fun r2 G1 =>
  if r2 = 0 then
    if (up G1 25 0 6 1) 25 0 6 = 0 then
      bV (f_Mod_knows (up G1 25 0 6 1)) fun G3 =>
      l_Mod_leftOver_33 x1 0 0 G3
    else
    rI 0 (up G1 25 0 6 1)
  else
  if (up G1 25 0 6 0) 25 0 6 = 0 then
    bV (f_Mod_knows (up G1 25 0 6 0)) fun G4 =>
    l_Mod_leftOver_33 x1 0 0 G4
  else
  rI 0 (up G1 25 0 6 0) := (run_fix _ _ _ _ _).trans rfl
set_option maxRecDepth 20000 in
theorem e_l_Mod_leftOver_33 (x1 : Int) (x2 : Int) (x3 : Int) (G : GG) : l_Mod_leftOver_33 x1 x2 x3 G =
  if x3 < 16 then
    bI (f_Mod_isSmall x1 x3 G) fun r2 G1 =>
    if r2 = 0 then
      l_Mod_leftOver_33 x1 (wr (x2 + 0)) (wr (x3 + 1)) G1
    else
    l_Mod_leftOver_33 x1 (wr (x2 + 1)) (wr (x3 + 1)) G1
  else
  rI x2 G := (run_fix _ _ _ _ _).trans rfl
set_option maxRecDepth 20000 in
theorem e_f_Mod_parcels (x1 : Int) (x2 : Int) (G : GG) : f_Mod_parcels x1 x2 G =
  bI (f_Mod_isLevel x1 G) fun r2 G1 =>
  if r2 = 0 then
    if (up G1 25 0 6 1) 25 0 6 = 0 then
      bV (f_Mod_knows (up G1 25 0 6 1)) fun G3 =>
      bI (f_Mod_manyParcels x1 x2 G3) fun r5 G4 =>
      rI r5 G4
    else
    rI 0 (up G1 25 0 6 1)
  else
  bI (f_Mod_isIn x2 (-1) 3 G1) fun r7 G6 =>
  if r7 = 0 then
    if (up G6 25 0 6 1) 25 0 6 = 0 then
      bV (f_Mod_knows (up G6 25 0 6 1)) fun G8 =>
      bI (f_Mod_manyParcels x1 x2 G8) fun r10 G9 =>
      rI r10 G9
    else
    rI 0 (up G6 25 0 6 1)
  else
  if (up G6 25 0 6 0) 25 0 6 = 0 then
    bV (f_Mod_knows (up G6 25 0 6 0)) fun G11 =>
    bI (f_Mod_manyParcels x1 x2 G11) fun r13 G12 =>
    rI r13 G12
  else
  rI 0 (up G6 25 0 6 0) := (run_fix _ _ _ _ _).trans rfl
set_option maxRecDepth 20000 in
theorem e_f_Mod_became (x1 : Int) (x2 : Int) (G : GG) : f_Mod_became x1 x2 G =
  bI (f_Mod_isLevel x1 G) fun r2 G1 =>
  if r2 = 0 then
    if (up G1 25 0 6 1) 25 0 6 = 0 then
      bV (f_Mod_knows (up G1 25 0 6 1)) fun G3 =>
      if 0 ≤ wr ((wr (16 * x1)) + x2) ∧ wr ((wr (16 * x1)) + x2) < 80 then
      rI (G3 37 0 (wr ((wr (16 * x1)) + x2))) G3
      else none
    else
    rI 0 (up G1 25 0 6 1)
  else
  bI (f_Mod_isParcel x2 G1) fun r5 G4 =>
  if r5 = 0 then
    if (up G4 25 0 6 2) 25 0 6 = 0 then
      bV (f_Mod_knows (up G4 25 0 6 2)) fun G6 =>
      if 0 ≤ wr ((wr (16 * x1)) + x2) ∧ wr ((wr (16 * x1)) + x2) < 80 then
      rI (G6 37 0 (wr ((wr (16 * x1)) + x2))) G6
      else none
    else
    rI 0 (up G4 25 0 6 2)
  else
  bI (f_Mod_fieldsOf x2 G4) fun r8 G7 =>
  if r8 = 0 then
    if (up G7 25 0 6 3) 25 0 6 = 0 then
      bV (f_Mod_knows (up G7 25 0 6 3)) fun G9 =>
      if 0 ≤ wr ((wr (16 * x1)) + x2) ∧ wr ((wr (16 * x1)) + x2) < 80 then
      rI (G9 37 0 (wr ((wr (16 * x1)) + x2))) G9
      else none
    else
    rI 0 (up G7 25 0 6 3)
  else
  if (up G7 25 0 6 0) 25 0 6 = 0 then
    bV (f_Mod_knows (up G7 25 0 6 0)) fun G10 =>
    if 0 ≤ wr ((wr (16 * x1)) + x2) ∧ wr ((wr (16 * x1)) + x2) < 80 then
    rI (G10 37 0 (wr ((wr (16 * x1)) + x2))) G10
    else none
  else
  rI 0 (up G7 25 0 6 0) := (run_fix _ _ _ _ _).trans rfl
set_option maxRecDepth 20000 in
theorem e_f_Mod_neighbors (x1 : Int) (x2 : Int) (G : GG) : f_Mod_neighbors x1 x2 G =
  bI (f_Mod_isLevel x1 G) fun r2 G1 =>
  if r2 = 0 then
    if (up G1 25 0 6 1) 25 0 6 = 0 then
      bV (f_Mod_knows (up G1 25 0 6 1)) fun G3 =>
      l_Mod_neighbors_45 x1 x2 0 0 G3
    else
    rI 0 (up G1 25 0 6 1)
  else
  bI (f_Mod_isParcel x2 G1) fun r5 G4 =>
  if r5 = 0 then
    if (up G4 25 0 6 2) 25 0 6 = 0 then
      bV (f_Mod_knows (up G4 25 0 6 2)) fun G6 =>
      l_Mod_neighbors_45 x1 x2 0 0 G6
    else
    rI 0 (up G4 25 0 6 2)
  else
  if (up G4 25 0 6 0) 25 0 6 = 0 then
    bV (f_Mod_knows (up G4 25 0 6 0)) fun G7 =>
    l_Mod_neighbors_45 x1 x2 0 0 G7
  else
  rI 0 (up G4 25 0 6 0) := (run_fix _ _ _ _ _).trans rfl
set_option maxRecDepth 20000 in
theorem e_l_Mod_neighbors_45 (x1 : Int) (x2 : Int) (x3 : Int) (x4 : Int) (G : GG) : l_Mod_neighbors_45 x1 x2 x3 x4 G =
  if x4 < 16 then
    bI (f_Mod_borderOf x1 x2 x4 G) fun r2 G1 =>
    if 0 < r2 then
      l_Mod_neighbors_45 x1 x2 (bOr x3 (bShl 1 x4)) (wr (x4 + 1)) G1
    else
    l_Mod_neighbors_45 x1 x2 (bOr x3 0) (wr (x4 + 1)) G1
  else
  rI x3 G := (run_fix _ _ _ _ _).trans rfl
set_option maxRecDepth 20000 in
theorem e_f_Mod_border (x1 : Int) (x2 : Int) (x3 : Int) (G : GG) : f_Mod_border x1 x2 x3 G =
  bI (f_Mod_isLevel x1 G) fun r2 G1 =>
  if r2 = 0 then
    if (up G1 25 0 6 1) 25 0 6 = 0 then
      bV (f_Mod_knows (up G1 25 0 6 1)) fun G3 =>
      bI (f_Mod_borderOf x1 x2 x3 G3) fun r5 G4 =>
      rI r5 G4
    else
    rI 0 (up G1 25 0 6 1)
  else
  bI (f_Mod_isParcel x2 G1) fun r7 G6 =>
  if r7 = 0 then
    if (up G6 25 0 6 2) 25 0 6 = 0 then
      bV (f_Mod_knows (up G6 25 0 6 2)) fun G8 =>
      bI (f_Mod_borderOf x1 x2 x3 G8) fun r10 G9 =>
      rI r10 G9
    else
    rI 0 (up G6 25 0 6 2)
  else
  bI (f_Mod_isParcel x3 G6) fun r12 G11 =>
  if r12 = 0 then
    if (up G11 25 0 6 2) 25 0 6 = 0 then
      bV (f_Mod_knows (up G11 25 0 6 2)) fun G13 =>
      bI (f_Mod_borderOf x1 x2 x3 G13) fun r15 G14 =>
      rI r15 G14
    else
    rI 0 (up G11 25 0 6 2)
  else
  if (up G11 25 0 6 0) 25 0 6 = 0 then
    bV (f_Mod_knows (up G11 25 0 6 0)) fun G16 =>
    bI (f_Mod_borderOf x1 x2 x3 G16) fun r18 G17 =>
    rI r18 G17
  else
  rI 0 (up G11 25 0 6 0) := (run_fix _ _ _ _ _).trans rfl
set_option maxRecDepth 20000 in
theorem e_f_Mod_area (x1 : Int) (x2 : Int) (G : GG) : f_Mod_area x1 x2 G =
  bI (f_Mod_isLevel x1 G) fun r2 G1 =>
  if r2 = 0 then
    if (up G1 25 0 6 1) 25 0 6 = 0 then
      bV (f_Mod_knows (up G1 25 0 6 1)) fun G3 =>
      bI (f_Mod_areaOf x1 x2 G3) fun r5 G4 =>
      rI r5 G4
    else
    rI 0 (up G1 25 0 6 1)
  else
  bI (f_Mod_isParcel x2 G1) fun r7 G6 =>
  if r7 = 0 then
    if (up G6 25 0 6 2) 25 0 6 = 0 then
      bV (f_Mod_knows (up G6 25 0 6 2)) fun G8 =>
      bI (f_Mod_areaOf x1 x2 G8) fun r10 G9 =>
      rI r10 G9
    else
    rI 0 (up G6 25 0 6 2)
  else
  if (up G6 25 0 6 0) 25 0 6 = 0 then
    bV (f_Mod_knows (up G6 25 0 6 0)) fun G11 =>
    bI (f_Mod_areaOf x1 x2 G11) fun r13 G12 =>
    rI r13 G12
  else
  rI 0 (up G6 25 0 6 0) := (run_fix _ _ _ _ _).trans rfl
set_option maxRecDepth 20000 in
theorem e_f_Mod_parcelAt (x1 : Int) (x2 : Int) (x3 : Int) (G : GG) : f_Mod_parcelAt x1 x2 x3 G =
  bI (f_Mod_isLevel x1 G) fun r2 G1 =>
  if r2 = 0 then
    if (up G1 25 0 6 1) 25 0 6 = 0 then
      bV (f_Mod_knows (up G1 25 0 6 1)) fun G3 =>
      if 0 ≤ wr ((wr ((wr (64 * x1)) + (wr (8 * x3)))) + x2) ∧ wr ((wr ((wr (64 * x1)) + (wr (8 * x3)))) + x2) < 320 then
      rI (G3 36 0 (wr ((wr ((wr (64 * x1)) + (wr (8 * x3)))) + x2))) G3
      else none
    else
    rI 0 (up G1 25 0 6 1)
  else
  bI (f_Mod_isIn x2 0 7 G1) fun r5 G4 =>
  if r5 = 0 then
    if (up G4 25 0 6 1) 25 0 6 = 0 then
      bV (f_Mod_knows (up G4 25 0 6 1)) fun G6 =>
      if 0 ≤ wr ((wr ((wr (64 * x1)) + (wr (8 * x3)))) + x2) ∧ wr ((wr ((wr (64 * x1)) + (wr (8 * x3)))) + x2) < 320 then
      rI (G6 36 0 (wr ((wr ((wr (64 * x1)) + (wr (8 * x3)))) + x2))) G6
      else none
    else
    rI 0 (up G4 25 0 6 1)
  else
  bI (f_Mod_isIn x3 0 7 G4) fun r8 G7 =>
  if r8 = 0 then
    if (up G7 25 0 6 1) 25 0 6 = 0 then
      bV (f_Mod_knows (up G7 25 0 6 1)) fun G9 =>
      if 0 ≤ wr ((wr ((wr (64 * x1)) + (wr (8 * x3)))) + x2) ∧ wr ((wr ((wr (64 * x1)) + (wr (8 * x3)))) + x2) < 320 then
      rI (G9 36 0 (wr ((wr ((wr (64 * x1)) + (wr (8 * x3)))) + x2))) G9
      else none
    else
    rI 0 (up G7 25 0 6 1)
  else
  if (up G7 25 0 6 0) 25 0 6 = 0 then
    bV (f_Mod_knows (up G7 25 0 6 0)) fun G10 =>
    if 0 ≤ wr ((wr ((wr (64 * x1)) + (wr (8 * x3)))) + x2) ∧ wr ((wr ((wr (64 * x1)) + (wr (8 * x3)))) + x2) < 320 then
    rI (G10 36 0 (wr ((wr ((wr (64 * x1)) + (wr (8 * x3)))) + x2))) G10
    else none
  else
  rI 0 (up G7 25 0 6 0) := (run_fix _ _ _ _ _).trans rfl
set_option maxRecDepth 20000 in
theorem e_f_Mod_lineAt (x1 : Int) (x2 : Int) (x3 : Int) (G : GG) : f_Mod_lineAt x1 x2 x3 G =
  bI (f_Mod_isLevel x1 G) fun r2 G1 =>
  if r2 = 0 then
    if (up G1 25 0 6 1) 25 0 6 = 0 then
      bV (f_Mod_looks x1 (up G1 25 0 6 1)) fun G3 =>
      bI (f_Mod_lineWith x2 x3 G3) fun r5 G4 =>
      rI r5 G4
    else
    rI 0 (up G1 25 0 6 1)
  else
  bI (f_Mod_isPlace x2 x3 G1) fun r7 G6 =>
  if r7 = 0 then
    if (up G6 25 0 6 1) 25 0 6 = 0 then
      bV (f_Mod_looks x1 (up G6 25 0 6 1)) fun G8 =>
      bI (f_Mod_lineWith x2 x3 G8) fun r10 G9 =>
      rI r10 G9
    else
    rI 0 (up G6 25 0 6 1)
  else
  if (up G6 25 0 6 0) 25 0 6 = 0 then
    bV (f_Mod_looks x1 (up G6 25 0 6 0)) fun G11 =>
    bI (f_Mod_lineWith x2 x3 G11) fun r13 G12 =>
    rI r13 G12
  else
  rI 0 (up G6 25 0 6 0) := (run_fix _ _ _ _ _).trans rfl
set_option maxRecDepth 20000 in
theorem e_f_Mod_mostSimplified (x1 : Int) (G : GG) : f_Mod_mostSimplified x1 G =
  bI (f_Mod_isLevel x1 G) fun r2 G1 =>
  if r2 = 0 then
    if (up G1 25 0 6 1) 25 0 6 = 0 then
      bV (f_Mod_knows (up G1 25 0 6 1)) fun G3 =>
      l_Mod_mostSimplified_36 x1 (-1) 0 0 G3
    else
    rI 0 (up G1 25 0 6 1)
  else
  if (up G1 25 0 6 0) 25 0 6 = 0 then
    bV (f_Mod_knows (up G1 25 0 6 0)) fun G4 =>
    l_Mod_mostSimplified_36 x1 (-1) 0 0 G4
  else
  rI 0 (up G1 25 0 6 0) := (run_fix _ _ _ _ _).trans rfl
set_option maxRecDepth 20000 in
theorem e_l_Mod_mostSimplified_36 (x1 : Int) (x2 : Int) (x3 : Int) (x4 : Int) (G : GG) : l_Mod_mostSimplified_36 x1 x2 x3 x4 G =
  if x4 < G 26 0 0 then
    if 0 ≤ x4 ∧ x4 < 30 then
    if 0 ≤ wr ((wr (6 * x1)) + x4) ∧ wr ((wr (6 * x1)) + x4) < 30 then
    if x3 < wr ((G 34 0 x4) - (G 34 0 (wr ((wr (6 * x1)) + x4)))) then
      l_Mod_mostSimplified_36 x1 x4 (mMax x3 (wr ((G 34 0 x4) - (G 34 0 (wr ((wr (6 * x1)) + x4)))))) (wr (x4 + 1)) G
    else
    l_Mod_mostSimplified_36 x1 x2 (mMax x3 (wr ((G 34 0 x4) - (G 34 0 (wr ((wr (6 * x1)) + x4)))))) (wr (x4 + 1)) G
    else none
    else none
  else
  if x2 < 0 then
    rI (mMax 0 x2) (up G 25 0 6 2)
  else
  rI (mMax 0 x2) (up G 25 0 6 0) := (run_fix _ _ _ _ _).trans rfl
set_option maxRecDepth 20000 in
theorem e_f_Mod_extent (x1 : Int) (x2 : Int) (G : GG) : f_Mod_extent x1 x2 G =
  bI (f_Mod_isLevel x1 G) fun r2 G1 =>
  if r2 = 0 then
    if (up G1 25 0 6 1) 25 0 6 = 0 then
      bV (f_Mod_looks x1 (up G1 25 0 6 1)) fun G3 =>
      l_Mod_extent_50 x2 0 (wr (10 * x2)) G3
    else
    rI 0 (up G1 25 0 6 1)
  else
  bI (f_Mod_isLine x2 G1) fun r5 G4 =>
  if r5 = 0 then
    if (up G4 25 0 6 2) 25 0 6 = 0 then
      bV (f_Mod_looks x1 (up G4 25 0 6 2)) fun G6 =>
      l_Mod_extent_50 x2 0 (wr (10 * x2)) G6
    else
    rI 0 (up G4 25 0 6 2)
  else
  if (up G4 25 0 6 0) 25 0 6 = 0 then
    bV (f_Mod_looks x1 (up G4 25 0 6 0)) fun G7 =>
    l_Mod_extent_50 x2 0 (wr (10 * x2)) G7
  else
  rI 0 (up G4 25 0 6 0) := (run_fix _ _ _ _ _).trans rfl
set_option maxRecDepth 20000 in
theorem e_l_Mod_extent_50 (x2 : Int) (x3 : Int) (x4 : Int) (G : GG) : l_Mod_extent_50 x2 x3 x4 G =
  if 0 ≤ x2 ∧ x2 < 6 then
  if wr (x4 + 1) < wr ((wr (10 * x2)) + (G 30 0 x2)) then
    if 0 ≤ wr (x4 + 1) ∧ wr (x4 + 1) < 60 then
    if 0 ≤ x4 ∧ x4 < 60 then
    if 0 ≤ wr (x4 + 1) ∧ wr (x4 + 1) < 60 then
    if 0 ≤ x4 ∧ x4 < 60 then
    l_Mod_extent_50 x2 (wr (x3 + (wr ((mAbs (wr ((G 31 0 (wr (x4 + 1))) - (G 31 0 x4)))) + (mAbs (wr ((G 32 0 (wr (x4 + 1))) - (G 32 0 x4)))))))) (wr (x4 + 1)) G
    else none
    else none
    else none
    else none
  else
  rI x3 G
  else none := (run_fix _ _ _ _ _).trans rfl
set_option maxRecDepth 20000 in
theorem e_f_Mod_removed (x1 : Int) (x2 : Int) (G : GG) : f_Mod_removed x1 x2 G =
  bI (f_Mod_isLevel x1 G) fun r2 G1 =>
  if r2 = 0 then
    if (up G1 25 0 6 1) 25 0 6 = 0 then
      bV (f_Mod_knows (up G1 25 0 6 1)) fun G3 =>
      bI (f_Mod_manyVertices (mMin x1 x2) G3) fun r5 G4 =>
      bI (f_Mod_manyVertices (mMax x1 x2) G4) fun r7 G6 =>
      rI (wr (r5 - r7)) G6
    else
    rI 0 (up G1 25 0 6 1)
  else
  bI (f_Mod_isLevel x2 G1) fun r9 G8 =>
  if r9 = 0 then
    if (up G8 25 0 6 1) 25 0 6 = 0 then
      bV (f_Mod_knows (up G8 25 0 6 1)) fun G10 =>
      bI (f_Mod_manyVertices (mMin x1 x2) G10) fun r12 G11 =>
      bI (f_Mod_manyVertices (mMax x1 x2) G11) fun r14 G13 =>
      rI (wr (r12 - r14)) G13
    else
    rI 0 (up G8 25 0 6 1)
  else
  if (up G8 25 0 6 0) 25 0 6 = 0 then
    bV (f_Mod_knows (up G8 25 0 6 0)) fun G15 =>
    bI (f_Mod_manyVertices (mMin x1 x2) G15) fun r17 G16 =>
    bI (f_Mod_manyVertices (mMax x1 x2) G16) fun r19 G18 =>
    rI (wr (r17 - r19)) G18
  else
  rI 0 (up G8 25 0 6 0) := (run_fix _ _ _ _ _).trans rfl
set_option maxRecDepth 20000 in
theorem e_f_Mod_weight (x1 : Int) (x2 : Int) (x3 : Int) (G : GG) : f_Mod_weight x1 x2 x3 G =
  bI (f_Mod_wrongVertex x1 x2 x3 G) fun r2 G1 =>
  if (up G1 25 0 6 r2) 25 0 6 = 0 then
    bI (f_Mod_weightOf x2 x3 (up G1 25 0 6 r2)) fun r4 G3 =>
    rI r4 G3
  else
  rI 0 (up G1 25 0 6 r2) := (run_fix _ _ _ _ _).trans rfl
set_option maxRecDepth 20000 in
theorem e_f_Mod_why (x1 : Int) (x2 : Int) (x3 : Int) (G : GG) : f_Mod_why x1 x2 x3 G =
  bI (f_Mod_wrongVertex x1 x2 x3 G) fun r2 G1 =>
  if (up G1 25 0 6 r2) 25 0 6 = 0 then
    bI (f_Mod_of x1 0 (up G1 25 0 6 r2)) fun r4 G3 =>
    bI (f_Mod_reason x2 x3 r4 G3) fun r6 G5 =>
    rI r6 G5
  else
  rI 0 (up G1 25 0 6 r2) := (run_fix _ _ _ _ _).trans rfl
set_option maxRecDepth 20000 in
theorem e_f_Mod_lost (x1 : Int) (x2 : Int) (G : GG) : f_Mod_lost x1 x2 G =
  bI (f_Mod_isLine x1 G) fun r2 G1 =>
  if r2 = 0 then
    if (up G1 25 0 6 1) 25 0 6 = 0 then
      bV (f_Mod_knows (up G1 25 0 6 1)) fun G3 =>
      l_Mod_lost_50 x1 x2 0 G3
    else
    rI 0 (up G1 25 0 6 1)
  else
  if 0 ≤ wr (1 + x1) ∧ wr (1 + x1) < 296 then
  bI (f_Mod_isIn x2 0 (wr ((G1 26 0 (wr (1 + x1))) - 1)) G1) fun r5 G4 =>
  if r5 = 0 then
    if (up G4 25 0 6 1) 25 0 6 = 0 then
      bV (f_Mod_knows (up G4 25 0 6 1)) fun G6 =>
      l_Mod_lost_50 x1 x2 0 G6
    else
    rI 0 (up G4 25 0 6 1)
  else
  if (up G4 25 0 6 0) 25 0 6 = 0 then
    bV (f_Mod_knows (up G4 25 0 6 0)) fun G7 =>
    l_Mod_lost_50 x1 x2 0 G7
  else
  rI 0 (up G4 25 0 6 0)
  else none := (run_fix _ _ _ _ _).trans rfl
set_option maxRecDepth 20000 in
theorem e_l_Mod_lost_50 (x1 : Int) (x2 : Int) (x3 : Int) (G : GG) : l_Mod_lost_50 x1 x2 x3 G =
  if x3 < 5 then
    bI (f_Mod_isKept x3 x1 x2 G) fun r2 G1 =>
    if r2 = 0 then
      rI x3 G1
    else
    l_Mod_lost_50 x1 x2 (wr (x3 + 1)) G1
  else
  rI x3 G := (run_fix _ _ _ _ _).trans rfl
set_option maxRecDepth 20000 in
theorem e_f_Mod_vertex (x1 : Int) (x2 : Int) (x3 : Int) (x4 : Int) (G : GG) : f_Mod_vertex x1 x2 x3 x4 G =
  bI (f_Mod_wrongVertex x1 x2 x3 G) fun r2 G1 =>
  if (up G1 25 0 6 r2) 25 0 6 = 0 then
    if x4 = 0 then
      if 0 ≤ wr ((wr (10 * x2)) + x3) ∧ wr ((wr (10 * x2)) + x3) < 60 then
      rI ((up G1 25 0 6 r2) 31 0 (wr ((wr (10 * x2)) + x3))) (up G1 25 0 6 r2)
      else none
    else
    if 0 ≤ wr ((wr (10 * x2)) + x3) ∧ wr ((wr (10 * x2)) + x3) < 60 then
    rI ((up G1 25 0 6 r2) 32 0 (wr ((wr (10 * x2)) + x3))) (up G1 25 0 6 r2)
    else none
  else
  rI 0 (up G1 25 0 6 r2) := (run_fix _ _ _ _ _).trans rfl
set_option maxRecDepth 20000 in
theorem e_f_Mod_vertices (x1 : Int) (x2 : Int) (G : GG) : f_Mod_vertices x1 x2 G =
  bI (f_Mod_isLevel x1 G) fun r2 G1 =>
  if r2 = 0 then
    if (up G1 25 0 6 1) 25 0 6 = 0 then
      bV (f_Mod_knows (up G1 25 0 6 1)) fun G3 =>
      if 0 ≤ wr ((wr (6 * x1)) + x2) ∧ wr ((wr (6 * x1)) + x2) < 30 then
      rI (G3 34 0 (wr ((wr (6 * x1)) + x2))) G3
      else none
    else
    rI 0 (up G1 25 0 6 1)
  else
  bI (f_Mod_isLine x2 G1) fun r5 G4 =>
  if r5 = 0 then
    if (up G4 25 0 6 2) 25 0 6 = 0 then
      bV (f_Mod_knows (up G4 25 0 6 2)) fun G6 =>
      if 0 ≤ wr ((wr (6 * x1)) + x2) ∧ wr ((wr (6 * x1)) + x2) < 30 then
      rI (G6 34 0 (wr ((wr (6 * x1)) + x2))) G6
      else none
    else
    rI 0 (up G4 25 0 6 2)
  else
  if (up G4 25 0 6 0) 25 0 6 = 0 then
    bV (f_Mod_knows (up G4 25 0 6 0)) fun G7 =>
    if 0 ≤ wr ((wr (6 * x1)) + x2) ∧ wr ((wr (6 * x1)) + x2) < 30 then
    rI (G7 34 0 (wr ((wr (6 * x1)) + x2))) G7
    else none
  else
  rI 0 (up G4 25 0 6 0) := (run_fix _ _ _ _ _).trans rfl
set_option maxRecDepth 20000 in
theorem e_f_Mod_point (x1 : Int) (x2 : Int) (G : GG) : f_Mod_point x1 x2 G =
  bI (f_Mod_isPoint x1 G) fun r2 G1 =>
  if r2 = 0 then
    if (up G1 25 0 6 1) 25 0 6 = 0 then
      bI (f_Mod_ofPoint x1 x2 (up G1 25 0 6 1)) fun r4 G3 =>
      rI r4 G3
    else
    rI 0 (up G1 25 0 6 1)
  else
  bI (f_Mod_isIn x2 0 5 G1) fun r6 G5 =>
  if r6 = 0 then
    if (up G5 25 0 6 2) 25 0 6 = 0 then
      bI (f_Mod_ofPoint x1 x2 (up G5 25 0 6 2)) fun r8 G7 =>
      rI r8 G7
    else
    rI 0 (up G5 25 0 6 2)
  else
  if (up G5 25 0 6 0) 25 0 6 = 0 then
    bI (f_Mod_ofPoint x1 x2 (up G5 25 0 6 0)) fun r10 G9 =>
    rI r10 G9
  else
  rI 0 (up G5 25 0 6 0) := (run_fix _ _ _ _ _).trans rfl
set_option maxRecDepth 20000 in
theorem e_f_Mod_count (x1 : Int) (G : GG) : f_Mod_count x1 G =
  bI (f_Mod_isIn x1 0 4 G) fun r2 G1 =>
  if r2 = 0 then
    if (up G1 25 0 6 1) 25 0 6 = 0 then
      bV (f_Mod_knows (up G1 25 0 6 1)) fun G3 =>
      if x1 = 0 then
        rI (G3 26 0 0) G3
      else
      if x1 = 1 then
        rI (G3 26 0 127) G3
      else
      if x1 = 2 then
        bI (f_Mod_manyParcels 0 (-1) G3) fun r5 G4 =>
        rI r5 G4
      else
      if x1 = 3 then
        bI (f_Mod_fieldsOf (-1) G3) fun r7 G6 =>
        rI r7 G6
      else
      bI (f_Mod_manyVertices 0 G3) fun r9 G8 =>
      rI r9 G8
    else
    rI 0 (up G1 25 0 6 1)
  else
  if (up G1 25 0 6 0) 25 0 6 = 0 then
    bV (f_Mod_knows (up G1 25 0 6 0)) fun G10 =>
    if x1 = 0 then
      rI (G10 26 0 0) G10
    else
    if x1 = 1 then
      rI (G10 26 0 127) G10
    else
    if x1 = 2 then
      bI (f_Mod_manyParcels 0 (-1) G10) fun r12 G11 =>
      rI r12 G11
    else
    if x1 = 3 then
      bI (f_Mod_fieldsOf (-1) G10) fun r14 G13 =>
      rI r14 G13
    else
    bI (f_Mod_manyVertices 0 G10) fun r16 G15 =>
    rI r16 G15
  else
  rI 0 (up G1 25 0 6 0) := (run_fix _ _ _ _ _).trans rfl
set_option maxRecDepth 20000 in
theorem e_f_Mod_setting2 (x1 : Int) (x2 : Int) (G : GG) : f_Mod_setting2 x1 x2 G =
  bI (f_Mod_isLevel x1 G) fun r2 G1 =>
  if r2 = 0 then
    if (up G1 25 0 6 1) 25 0 6 = 0 then
      bI (f_Mod_of x1 x2 (up G1 25 0 6 1)) fun r4 G3 =>
      rI r4 G3
    else
    rI 0 (up G1 25 0 6 1)
  else
  bI (f_Mod_isIn x2 0 2 G1) fun r6 G5 =>
  if r6 = 0 then
    if (up G5 25 0 6 1) 25 0 6 = 0 then
      bI (f_Mod_of x1 x2 (up G5 25 0 6 1)) fun r8 G7 =>
      rI r8 G7
    else
    rI 0 (up G5 25 0 6 1)
  else
  if (up G5 25 0 6 0) 25 0 6 = 0 then
    bI (f_Mod_of x1 x2 (up G5 25 0 6 0)) fun r10 G9 =>
    rI r10 G9
  else
  rI 0 (up G5 25 0 6 0) := (run_fix _ _ _ _ _).trans rfl
set_option maxRecDepth 20000 in
theorem e_f_Mod_set (x1 : Int) (x2 : Int) (x3 : Int) (G : GG) : f_Mod_set x1 x2 x3 G =
  bI (f_Mod_isIn x1 1 4 G) fun r2 G1 =>
  if r2 = 0 then
    l_Mod_set_23 x1 x2 x3 0 G1
  else
  bI (f_Mod_isIn x2 0 2 G1) fun r4 G3 =>
  if r4 = 0 then
    l_Mod_set_23 x1 x2 x3 0 G3
  else
  l_Mod_set_23 x1 x2 x3 1 G3 := (run_fix _ _ _ _ _).trans rfl
set_option maxRecDepth 20000 in
theorem e_l_Mod_set_23 (x1 : Int) (x2 : Int) (x3 : Int) (s0 : Int) (G : GG) : l_Mod_set_23 x1 x2 x3 s0 G =
  if s0 = 0 then
    l_Mod_set_66 x1 x2 x3 1 G
  else
  if x2 = 0 then
    bI (f_Mod_isIn x3 0 500 G) fun r2 G1 =>
    if r2 = 0 then
      l_Mod_set_66 x1 x2 x3 1 G1
    else
    l_Mod_set_66 x1 x2 x3 0 G1
  else
  if x2 = 1 then
    bI (f_Mod_isIn x3 0 20 G) fun r4 G3 =>
    if r4 = 0 then
      l_Mod_set_66 x1 x2 x3 1 G3
    else
    l_Mod_set_66 x1 x2 x3 0 G3
  else
  bI (f_Mod_isIn x3 0 9 G) fun r6 G5 =>
  if r6 = 0 then
    l_Mod_set_66 x1 x2 x3 1 G5
  else
  l_Mod_set_66 x1 x2 x3 0 G5 := (run_fix _ _ _ _ _).trans rfl
set_option maxRecDepth 20000 in
theorem e_l_Mod_set_66 (x1 : Int) (x2 : Int) (x3 : Int) (s0 : Int) (G : GG) : l_Mod_set_66 x1 x2 x3 s0 G =
  if (up G 25 0 6 s0) 25 0 6 = 0 then
    bI (f_Mod_of (wr (x1 - 1)) x2 (up G 25 0 6 s0)) fun r2 G1 =>
    if x3 < r2 then
      l_Mod_set_95 x1 x2 x3 1 G1
    else
    l_Mod_set_95 x1 x2 x3 0 G1
  else
  rI 0 (up G 25 0 6 s0) := (run_fix _ _ _ _ _).trans rfl
set_option maxRecDepth 20000 in
theorem e_l_Mod_set_95 (x1 : Int) (x2 : Int) (x3 : Int) (s0 : Int) (G : GG) : l_Mod_set_95 x1 x2 x3 s0 G =
  if s0 = 0 then
    if wr (x1 + 1) < 5 then
      bI (f_Mod_of (wr (x1 + 1)) x2 G) fun r2 G1 =>
      if r2 < x3 then
        l_Mod_set_127 x1 x2 x3 2 G1
      else
      l_Mod_set_127 x1 x2 x3 0 G1
    else
    l_Mod_set_127 x1 x2 x3 0 G
  else
  l_Mod_set_127 x1 x2 x3 2 G := (run_fix _ _ _ _ _).trans rfl
set_option maxRecDepth 20000 in
theorem e_l_Mod_set_127 (x1 : Int) (x2 : Int) (x3 : Int) (s0 : Int) (G : GG) : l_Mod_set_127 x1 x2 x3 s0 G =
  if (up G 25 0 6 s0) 25 0 6 = 0 then
    bV (f_Mod_keeps (up G 25 0 6 s0)) fun G1 =>
    bI (f_Mod_of x1 x2 G1) fun r3 G2 =>
    if 0 ≤ wr ((wr (280 + (wr (3 * x1)))) + x2) ∧ wr ((wr (280 + (wr (3 * x1)))) + x2) < 296 then
    rI r3 (up G2 26 0 (wr ((wr (280 + (wr (3 * x1)))) + x2)) x3)
    else none
  else
  rI 0 (up G 25 0 6 s0) := (run_fix _ _ _ _ _).trans rfl
set_option maxRecDepth 20000 in
theorem e_f_Mod_setStrict (x1 : Int) (G : GG) : f_Mod_setStrict x1 G =
  bV (f_Mod_keeps (up G 25 0 6 0)) fun G1 =>
  if G1 26 0 295 = 1 then
    if x1 = 0 then
      rI 1 (up G1 26 0 295 0)
    else
    rI 1 (up G1 26 0 295 1)
  else
  if x1 = 0 then
    rI 0 (up G1 26 0 295 0)
  else
  rI 0 (up G1 26 0 295 1) := (run_fix _ _ _ _ _).trans rfl
set_option maxRecDepth 20000 in
theorem e_f_Mod_setClass (x1 : Int) (x2 : Int) (G : GG) : f_Mod_setClass x1 x2 G =
  bI (f_Mod_isParcel x1 G) fun r2 G1 =>
  if r2 = 0 then
    if (up G1 25 0 6 1) 25 0 6 = 0 then
      bV (f_Mod_keeps (up G1 25 0 6 1)) fun G3 =>
      if 0 ≤ wr (264 + x1) ∧ wr (264 + x1) < 296 then
      if 0 ≤ wr (264 + x1) ∧ wr (264 + x1) < 296 then
      rI (G3 26 0 (wr (264 + x1))) (up G3 26 0 (wr (264 + x1)) x2)
      else none
      else none
    else
    rI 0 (up G1 25 0 6 1)
  else
  bI (f_Mod_isIn x2 0 3 G1) fun r5 G4 =>
  if r5 = 0 then
    if (up G4 25 0 6 2) 25 0 6 = 0 then
      bV (f_Mod_keeps (up G4 25 0 6 2)) fun G6 =>
      if 0 ≤ wr (264 + x1) ∧ wr (264 + x1) < 296 then
      if 0 ≤ wr (264 + x1) ∧ wr (264 + x1) < 296 then
      rI (G6 26 0 (wr (264 + x1))) (up G6 26 0 (wr (264 + x1)) x2)
      else none
      else none
    else
    rI 0 (up G4 25 0 6 2)
  else
  if (up G4 25 0 6 0) 25 0 6 = 0 then
    bV (f_Mod_keeps (up G4 25 0 6 0)) fun G7 =>
    if 0 ≤ wr (264 + x1) ∧ wr (264 + x1) < 296 then
    if 0 ≤ wr (264 + x1) ∧ wr (264 + x1) < 296 then
    rI (G7 26 0 (wr (264 + x1))) (up G7 26 0 (wr (264 + x1)) x2)
    else none
    else none
  else
  rI 0 (up G4 25 0 6 0) := (run_fix _ _ _ _ _).trans rfl
set_option maxRecDepth 20000 in
theorem e_f_Mod_paint (x1 : Int) (x2 : Int) (x3 : Int) (x4 : Int) (x5 : Int) (G : GG) : f_Mod_paint x1 x2 x3 x4 x5 G =
  bI (f_Mod_isIn x1 0 7 G) fun r2 G1 =>
  if r2 = 0 then
    if (up G1 25 0 6 1) 25 0 6 = 0 then
      bV (f_Mod_keeps (up G1 25 0 6 1)) fun G3 =>
      l_Mod_paint_93 x1 x2 x3 x4 x5 x2 G3
    else
    rI 0 (up G1 25 0 6 1)
  else
  bI (f_Mod_isIn x2 0 7 G1) fun r5 G4 =>
  if r5 = 0 then
    if (up G4 25 0 6 1) 25 0 6 = 0 then
      bV (f_Mod_keeps (up G4 25 0 6 1)) fun G6 =>
      l_Mod_paint_93 x1 x2 x3 x4 x5 x2 G6
    else
    rI 0 (up G4 25 0 6 1)
  else
  bI (f_Mod_isIn x3 1 (wr (8 - x1)) G4) fun r8 G7 =>
  if r8 = 0 then
    if (up G7 25 0 6 1) 25 0 6 = 0 then
      bV (f_Mod_keeps (up G7 25 0 6 1)) fun G9 =>
      l_Mod_paint_93 x1 x2 x3 x4 x5 x2 G9
    else
    rI 0 (up G7 25 0 6 1)
  else
  bI (f_Mod_isIn x4 1 (wr (8 - x2)) G7) fun r11 G10 =>
  if r11 = 0 then
    if (up G10 25 0 6 1) 25 0 6 = 0 then
      bV (f_Mod_keeps (up G10 25 0 6 1)) fun G12 =>
      l_Mod_paint_93 x1 x2 x3 x4 x5 x2 G12
    else
    rI 0 (up G10 25 0 6 1)
  else
  bI (f_Mod_isIn x5 (-1) 15 G10) fun r14 G13 =>
  if r14 = 0 then
    if (up G13 25 0 6 1) 25 0 6 = 0 then
      bV (f_Mod_keeps (up G13 25 0 6 1)) fun G15 =>
      l_Mod_paint_93 x1 x2 x3 x4 x5 x2 G15
    else
    rI 0 (up G13 25 0 6 1)
  else
  if (up G13 25 0 6 0) 25 0 6 = 0 then
    bV (f_Mod_keeps (up G13 25 0 6 0)) fun G16 =>
    l_Mod_paint_93 x1 x2 x3 x4 x5 x2 G16
  else
  rI 0 (up G13 25 0 6 0) := (run_fix _ _ _ _ _).trans rfl
set_option maxRecDepth 20000 in
theorem e_l_Mod_paint_93 (x1 : Int) (x2 : Int) (x3 : Int) (x4 : Int) (x5 : Int) (x7 : Int) (G : GG) : l_Mod_paint_93 x1 x2 x3 x4 x5 x7 G =
  if x7 < wr (x2 + x4) then
    l_Mod_paint_105 x1 x2 x3 x4 x5 x7 x1 G
  else
  bI (f_Mod_fieldsOf x5 G) fun r2 G1 =>
  rI r2 G1 := (run_fix _ _ _ _ _).trans rfl
set_option maxRecDepth 20000 in
theorem e_l_Mod_paint_105 (x1 : Int) (x2 : Int) (x3 : Int) (x4 : Int) (x5 : Int) (x7 : Int) (x8 : Int) (G : GG) : l_Mod_paint_105 x1 x2 x3 x4 x5 x7 x8 G =
  if x8 < wr (x1 + x3) then
    if 0 ≤ wr ((wr (200 + (wr (8 * x7)))) + x8) ∧ wr ((wr (200 + (wr (8 * x7)))) + x8) < 296 then
    l_Mod_paint_105 x1 x2 x3 x4 x5 x7 (wr (x8 + 1)) (up G 26 0 (wr ((wr (200 + (wr (8 * x7)))) + x8)) x5)
    else none
  else
  l_Mod_paint_93 x1 x2 x3 x4 x5 (wr (x7 + 1)) G := (run_fix _ _ _ _ _).trans rfl
set_option maxRecDepth 20000 in
theorem e_f_Mod_setCorner (x1 : Int) (x2 : Int) (G : GG) : f_Mod_setCorner x1 x2 G =
  bI (f_Mod_isPoint x1 G) fun r2 G1 =>
  if r2 = 0 then
    if (up G1 25 0 6 1) 25 0 6 = 0 then
      bV (f_Mod_keeps (up G1 25 0 6 1)) fun G3 =>
      bI (f_Mod_ofPoint x1 5 G3) fun r5 G4 =>
      if 0 ≤ wr ((wr (128 + (wr (6 * x1)))) + 5) ∧ wr ((wr (128 + (wr (6 * x1)))) + 5) < 296 then
      rI r5 (up G4 26 0 (wr ((wr (128 + (wr (6 * x1)))) + 5)) x2)
      else none
    else
    rI 0 (up G1 25 0 6 1)
  else
  bI (f_Mod_isIn x2 0 3 G1) fun r7 G6 =>
  if r7 = 0 then
    if (up G6 25 0 6 2) 25 0 6 = 0 then
      bV (f_Mod_keeps (up G6 25 0 6 2)) fun G8 =>
      bI (f_Mod_ofPoint x1 5 G8) fun r10 G9 =>
      if 0 ≤ wr ((wr (128 + (wr (6 * x1)))) + 5) ∧ wr ((wr (128 + (wr (6 * x1)))) + 5) < 296 then
      rI r10 (up G9 26 0 (wr ((wr (128 + (wr (6 * x1)))) + 5)) x2)
      else none
    else
    rI 0 (up G6 25 0 6 2)
  else
  if (up G6 25 0 6 0) 25 0 6 = 0 then
    bV (f_Mod_keeps (up G6 25 0 6 0)) fun G11 =>
    bI (f_Mod_ofPoint x1 5 G11) fun r13 G12 =>
    if 0 ≤ wr ((wr (128 + (wr (6 * x1)))) + 5) ∧ wr ((wr (128 + (wr (6 * x1)))) + 5) < 296 then
    rI r13 (up G12 26 0 (wr ((wr (128 + (wr (6 * x1)))) + 5)) x2)
    else none
  else
  rI 0 (up G6 25 0 6 0) := (run_fix _ _ _ _ _).trans rfl
set_option maxRecDepth 20000 in
theorem e_f_Mod_removePoint (x1 : Int) (G : GG) : f_Mod_removePoint x1 G =
  bI (f_Mod_isPoint x1 G) fun r2 G1 =>
  if r2 = 0 then
    if (up G1 25 0 6 1) 25 0 6 = 0 then
      bV (f_Mod_keeps (up G1 25 0 6 1)) fun G3 =>
      l_Mod_removePoint_46 (wr (6 * x1)) (up G3 26 0 127 (wr ((G3 26 0 127) - 1)))
    else
    rI 0 (up G1 25 0 6 1)
  else
  if (up G1 25 0 6 0) 25 0 6 = 0 then
    bV (f_Mod_keeps (up G1 25 0 6 0)) fun G4 =>
    l_Mod_removePoint_46 (wr (6 * x1)) (up G4 26 0 127 (wr ((G4 26 0 127) - 1)))
  else
  rI 0 (up G1 25 0 6 0) := (run_fix _ _ _ _ _).trans rfl
set_option maxRecDepth 20000 in
theorem e_l_Mod_removePoint_46 (x2 : Int) (G : GG) : l_Mod_removePoint_46 x2 G =
  if x2 < wr (6 * (G 26 0 127)) then
    if 0 ≤ wr ((wr (128 + x2)) + 6) ∧ wr ((wr (128 + x2)) + 6) < 296 then
    if 0 ≤ wr (128 + x2) ∧ wr (128 + x2) < 296 then
    l_Mod_removePoint_46 (wr (x2 + 1)) (up G 26 0 (wr (128 + x2)) (G 26 0 (wr ((wr (128 + x2)) + 6))))
    else none
    else none
  else
  rI (G 26 0 127) G := (run_fix _ _ _ _ _).trans rfl
set_option maxRecDepth 20000 in
theorem e_f_Mod_removeLine (x1 : Int) (G : GG) : f_Mod_removeLine x1 G =
  bI (f_Mod_isLine x1 G) fun r2 G1 =>
  if r2 = 0 then
    if (up G1 25 0 6 1) 25 0 6 = 0 then
      bV (f_Mod_keeps (up G1 25 0 6 1)) fun G3 =>
      l_Mod_removeLine_42 x1 (up G3 26 0 0 (wr ((G3 26 0 0) - 1)))
    else
    rI 0 (up G1 25 0 6 1)
  else
  if (up G1 25 0 6 0) 25 0 6 = 0 then
    bV (f_Mod_keeps (up G1 25 0 6 0)) fun G4 =>
    l_Mod_removeLine_42 x1 (up G4 26 0 0 (wr ((G4 26 0 0) - 1)))
  else
  rI 0 (up G1 25 0 6 0) := (run_fix _ _ _ _ _).trans rfl
set_option maxRecDepth 20000 in
theorem e_l_Mod_removeLine_42 (x2 : Int) (G : GG) : l_Mod_removeLine_42 x2 G =
  if x2 < G 26 0 0 then
    if 0 ≤ wr ((wr (1 + x2)) + 1) ∧ wr ((wr (1 + x2)) + 1) < 296 then
    if 0 ≤ wr (1 + x2) ∧ wr (1 + x2) < 296 then
    l_Mod_removeLine_75 x2 (wr (10 * x2)) (up G 26 0 (wr (1 + x2)) (G 26 0 (wr ((wr (1 + x2)) + 1))))
    else none
    else none
  else
  rI (G 26 0 0) G := (run_fix _ _ _ _ _).trans rfl
set_option maxRecDepth 20000 in
theorem e_l_Mod_removeLine_75 (x2 : Int) (x3 : Int) (G : GG) : l_Mod_removeLine_75 x2 x3 G =
  if x3 < wr ((wr (10 * x2)) + 10) then
    if 0 ≤ wr ((wr (7 + x3)) + 10) ∧ wr ((wr (7 + x3)) + 10) < 296 then
    if 0 ≤ wr (7 + x3) ∧ wr (7 + x3) < 296 then
    if 0 ≤ wr ((wr (67 + x3)) + 10) ∧ wr ((wr (67 + x3)) + 10) < 296 then
    if 0 ≤ wr (67 + x3) ∧ wr (67 + x3) < 296 then
    l_Mod_removeLine_75 x2 (wr (x3 + 1)) (up (up G 26 0 (wr (7 + x3)) (G 26 0 (wr ((wr (7 + x3)) + 10)))) 26 0 (wr (67 + x3)) ((up G 26 0 (wr (7 + x3)) (G 26 0 (wr ((wr (7 + x3)) + 10)))) 26 0 (wr ((wr (67 + x3)) + 10))))
    else none
    else none
    else none
    else none
  else
  l_Mod_removeLine_42 (wr (x2 + 1)) G := (run_fix _ _ _ _ _).trans rfl
set_option maxRecDepth 20000 in
theorem e_f_Mod_addPoint (x1 : Int) (x2 : Int) (x3 : Int) (x4 : Int) (x5 : Int) (x6 : Int) (G : GG) : f_Mod_addPoint x1 x2 x3 x4 x5 x6 G =
  bI (f_Mod_isPlace x1 x2 G) fun r2 G1 =>
  if r2 = 0 then
    if (up G1 25 0 6 1) 25 0 6 = 0 then
      bV (f_Mod_keeps (up G1 25 0 6 1)) fun G3 =>
      bV (f_Mod_addsPoint x1 x2 x3 x4 x5 x6 G3) fun G4 =>
      rI (wr ((G4 26 0 127) - 1)) G4
    else
    rI 0 (up G1 25 0 6 1)
  else
  bI (f_Mod_isIn x3 0 9 G1) fun r6 G5 =>
  if r6 = 0 then
    if (up G5 25 0 6 1) 25 0 6 = 0 then
      bV (f_Mod_keeps (up G5 25 0 6 1)) fun G7 =>
      bV (f_Mod_addsPoint x1 x2 x3 x4 x5 x6 G7) fun G8 =>
      rI (wr ((G8 26 0 127) - 1)) G8
    else
    rI 0 (up G5 25 0 6 1)
  else
  bI (f_Mod_isIn x4 2 12 G5) fun r10 G9 =>
  if r10 = 0 then
    if (up G9 25 0 6 1) 25 0 6 = 0 then
      bV (f_Mod_keeps (up G9 25 0 6 1)) fun G11 =>
      bV (f_Mod_addsPoint x1 x2 x3 x4 x5 x6 G11) fun G12 =>
      rI (wr ((G12 26 0 127) - 1)) G12
    else
    rI 0 (up G9 25 0 6 1)
  else
  bI (f_Mod_isIn x5 1 4 G9) fun r14 G13 =>
  if r14 = 0 then
    if (up G13 25 0 6 1) 25 0 6 = 0 then
      bV (f_Mod_keeps (up G13 25 0 6 1)) fun G15 =>
      bV (f_Mod_addsPoint x1 x2 x3 x4 x5 x6 G15) fun G16 =>
      rI (wr ((G16 26 0 127) - 1)) G16
    else
    rI 0 (up G13 25 0 6 1)
  else
  bI (f_Mod_isIn x6 0 3 G13) fun r18 G17 =>
  if r18 = 0 then
    if (up G17 25 0 6 1) 25 0 6 = 0 then
      bV (f_Mod_keeps (up G17 25 0 6 1)) fun G19 =>
      bV (f_Mod_addsPoint x1 x2 x3 x4 x5 x6 G19) fun G20 =>
      rI (wr ((G20 26 0 127) - 1)) G20
    else
    rI 0 (up G17 25 0 6 1)
  else
  bI (f_Mod_wrongPoint x1 x2 G17) fun r22 G21 =>
  if (up G21 25 0 6 r22) 25 0 6 = 0 then
    bV (f_Mod_keeps (up G21 25 0 6 r22)) fun G23 =>
    bV (f_Mod_addsPoint x1 x2 x3 x4 x5 x6 G23) fun G24 =>
    rI (wr ((G24 26 0 127) - 1)) G24
  else
  rI 0 (up G21 25 0 6 r22) := (run_fix _ _ _ _ _).trans rfl
set_option maxRecDepth 20000 in
theorem e_f_Mod_clear (G : GG) : f_Mod_clear  G =
  bV (f_Mod_begins (up G 25 0 6 0)) fun G1 =>
  rI ((up G 25 0 6 0) 26 0 0) G1 := (run_fix _ _ _ _ _).trans rfl
set_option maxRecDepth 20000 in
theorem e_f_Mod_copies_msaved_ms (G : GG) : f_Mod_copies_msaved_ms  G =
  l_Mod_copies_msaved_ms_2 0 G := (run_fix _ _ _ _ _).trans rfl
set_option maxRecDepth 20000 in
theorem e_l_Mod_copies_msaved_ms_2 (x2 : Int) (G : GG) : l_Mod_copies_msaved_ms_2 x2 G =
  if x2 < 296 then
    if 0 ≤ x2 ∧ x2 < 296 then
    if 0 ≤ x2 ∧ x2 < 296 then
    l_Mod_copies_msaved_ms_2 (wr (x2 + 1)) (up G 26 0 x2 (G 28 0 x2))
    else none
    else none
  else
  rV G := (run_fix _ _ _ _ _).trans rfl
set_option maxRecDepth 20000 in
theorem e_f_Mod_copies_ms_msaved (G : GG) : f_Mod_copies_ms_msaved  G =
  l_Mod_copies_ms_msaved_2 0 G := (run_fix _ _ _ _ _).trans rfl
set_option maxRecDepth 20000 in
theorem e_l_Mod_copies_ms_msaved_2 (x2 : Int) (G : GG) : l_Mod_copies_ms_msaved_2 x2 G =
  if x2 < 296 then
    if 0 ≤ x2 ∧ x2 < 296 then
    if 0 ≤ x2 ∧ x2 < 296 then
    l_Mod_copies_ms_msaved_2 (wr (x2 + 1)) (up G 28 0 x2 (G 26 0 x2))
    else none
    else none
  else
  rV G := (run_fix _ _ _ _ _).trans rfl
set_option maxRecDepth 20000 in
theorem e_f_Mod_isLevel (x0 : Int) (G : GG) : f_Mod_isLevel x0 G =
  bI (f_Mod_isIn x0 0 4 G) fun r2 G1 =>
  if 0 ≤ r2 ∧ r2 ≤ 1 then
  rI r2 G1
  else none := (run_fix _ _ _ _ _).trans rfl
set_option maxRecDepth 20000 in
theorem e_f_Mod_looks (x1 : Int) (G : GG) : f_Mod_looks x1 G =
  bV (f_Mod_knows G) fun G1 =>
  bV (f_Mod_takesLevel x1 G1) fun G2 =>
  rV G2 := (run_fix _ _ _ _ _).trans rfl
set_option maxRecDepth 20000 in
theorem e_f_Mod_tells (x1 : Int) (G : GG) : f_Mod_tells x1 G =
  if 0 ≤ G 25 0 25 ∧ G 25 0 25 < 80 then
  rV (up (up G 41 0 (G 25 0 25) x1) 25 0 25 (wr (((up G 41 0 (G 25 0 25) x1) 25 0 25) + 1)))
  else none := (run_fix _ _ _ _ _).trans rfl
set_option maxRecDepth 20000 in
theorem e_f_Mod_isLine (x1 : Int) (G : GG) : f_Mod_isLine x1 G =
  bI (f_Mod_isIn x1 0 (wr ((G 26 0 0) - 1)) G) fun r2 G1 =>
  if 0 ≤ r2 ∧ r2 ≤ 1 then
  rI r2 G1
  else none := (run_fix _ _ _ _ _).trans rfl
set_option maxRecDepth 20000 in
theorem e_f_Mod_tellsNumber (x1 : Int) (G : GG) : f_Mod_tellsNumber x1 G =
  if 9 < x1 then
    bV (f_Mod_tells (wr (48 + (iDiv x1 10))) G) fun G1 =>
    bV (f_Mod_tells (wr (48 + (iRem x1 10))) G1) fun G2 =>
    rV G2
  else
  bV (f_Mod_tells (wr (48 + (iRem x1 10))) G) fun G3 =>
  rV G3 := (run_fix _ _ _ _ _).trans rfl
set_option maxRecDepth 20000 in
theorem e_f_Mod_isIn (x0 : Int) (x1 : Int) (x2 : Int) (G : GG) : f_Mod_isIn x0 x1 x2 G =
  if x0 < x1 then
    rI 0 G
  else
  if x2 < x0 then
    rI 0 G
  else
  rI 1 G := (run_fix _ _ _ _ _).trans rfl
set_option maxRecDepth 20000 in
theorem e_f_Mod_takesAll (G : GG) : f_Mod_takesAll  G =
  l_Mod_takesAll_15 (up (up (up G 25 0 20 0) 25 0 21 0) 25 0 22 0) := (run_fix _ _ _ _ _).trans rfl
set_option maxRecDepth 20000 in
theorem e_l_Mod_takesAll_15 (G : GG) : l_Mod_takesAll_15  G =
  bI (f_Mod_takesEntry G) fun r2 G1 =>
  if r2 = 0 then
    rI 0 G1
  else
  if (up G1 25 0 22 (wr ((G1 25 0 22) + 1))) 25 0 20 < (up G1 25 0 22 (wr ((G1 25 0 22) + 1))) 25 0 19 then
    l_Mod_takesAll_15 (up G1 25 0 22 (wr ((G1 25 0 22) + 1)))
  else
  rI 1 (up G1 25 0 22 (wr ((G1 25 0 22) + 1))) := (run_fix _ _ _ _ _).trans rfl
set_option maxRecDepth 20000 in
theorem e_f_Mod_copies_ms_mdraft (G : GG) : f_Mod_copies_ms_mdraft  G =
  l_Mod_copies_ms_mdraft_2 0 G := (run_fix _ _ _ _ _).trans rfl
set_option maxRecDepth 20000 in
theorem e_l_Mod_copies_ms_mdraft_2 (x2 : Int) (G : GG) : l_Mod_copies_ms_mdraft_2 x2 G =
  if x2 < 296 then
    if 0 ≤ x2 ∧ x2 < 296 then
    if 0 ≤ x2 ∧ x2 < 296 then
    l_Mod_copies_ms_mdraft_2 (wr (x2 + 1)) (up G 27 0 x2 (G 26 0 x2))
    else none
    else none
  else
  rV G := (run_fix _ _ _ _ _).trans rfl
set_option maxRecDepth 20000 in
theorem e_f_Mod_does (G : GG) : f_Mod_does  G =
  if 0 ≤ G 25 0 20 ∧ G 25 0 20 < 240 then
  if G 40 0 (G 25 0 20) = 76 then
    if 0 ≤ wr ((G 25 0 20) + 1) ∧ wr ((G 25 0 20) + 1) < 240 then
    bI (f_Mod_addsLine (wr ((G 25 0 20) + 1)) (up G 25 0 20 (wr ((wr ((wr ((G 25 0 20) + 1)) + 1)) + (wr (2 * (G 40 0 (wr ((G 25 0 20) + 1))))))))) fun r2 G1 =>
    rI r2 G1
    else none
  else
  if G 40 0 (G 25 0 20) = 80 then
    if 0 ≤ wr ((G 25 0 20) + 1) ∧ wr ((G 25 0 20) + 1) < 240 then
    if 0 ≤ wr ((wr ((G 25 0 20) + 1)) + 1) ∧ wr ((wr ((G 25 0 20) + 1)) + 1) < 240 then
    bI (f_Mod_wrongPoint ((up G 25 0 20 (wr ((wr ((G 25 0 20) + 1)) + 5))) 40 0 (wr ((G 25 0 20) + 1))) ((up G 25 0 20 (wr ((wr ((G 25 0 20) + 1)) + 5))) 40 0 (wr ((wr ((G 25 0 20) + 1)) + 1))) (up G 25 0 20 (wr ((wr ((G 25 0 20) + 1)) + 5)))) fun r4 G3 =>
    if r4 = 0 then
      if 0 ≤ wr ((G 25 0 20) + 1) ∧ wr ((G 25 0 20) + 1) < 240 then
      if 0 ≤ wr ((wr ((G 25 0 20) + 1)) + 1) ∧ wr ((wr ((G 25 0 20) + 1)) + 1) < 240 then
      if 0 ≤ wr ((wr ((G 25 0 20) + 1)) + 2) ∧ wr ((wr ((G 25 0 20) + 1)) + 2) < 240 then
      if 0 ≤ wr ((wr ((G 25 0 20) + 1)) + 3) ∧ wr ((wr ((G 25 0 20) + 1)) + 3) < 240 then
      if 0 ≤ wr ((wr ((G 25 0 20) + 1)) + 4) ∧ wr ((wr ((G 25 0 20) + 1)) + 4) < 240 then
      bV (f_Mod_addsPoint (G3 40 0 (wr ((G 25 0 20) + 1))) (G3 40 0 (wr ((wr ((G 25 0 20) + 1)) + 1))) (G3 40 0 (wr ((wr ((G 25 0 20) + 1)) + 2))) (G3 40 0 (wr ((wr ((G 25 0 20) + 1)) + 3))) (G3 40 0 (wr ((wr ((G 25 0 20) + 1)) + 4))) 0 G3) fun G5 =>
      rI 0 G5
      else none
      else none
      else none
      else none
      else none
    else
    rI 3 G3
    else none
    else none
  else
  if 0 ≤ wr ((wr ((G 25 0 20) + 1)) + 1) ∧ wr ((wr ((G 25 0 20) + 1)) + 1) < 240 then
  if 0 ≤ wr ((G 25 0 20) + 1) ∧ wr ((G 25 0 20) + 1) < 240 then
  if 0 ≤ wr ((wr ((G 25 0 20) + 1)) + 2) ∧ wr ((wr ((G 25 0 20) + 1)) + 2) < 240 then
  if 0 ≤ wr ((wr (200 + (wr (8 * ((up G 25 0 20 (wr ((wr ((G 25 0 20) + 1)) + 3))) 40 0 (wr ((wr ((G 25 0 20) + 1)) + 1))))))) + ((up G 25 0 20 (wr ((wr ((G 25 0 20) + 1)) + 3))) 40 0 (wr ((G 25 0 20) + 1)))) ∧ wr ((wr (200 + (wr (8 * ((up G 25 0 20 (wr ((wr ((G 25 0 20) + 1)) + 3))) 40 0 (wr ((wr ((G 25 0 20) + 1)) + 1))))))) + ((up G 25 0 20 (wr ((wr ((G 25 0 20) + 1)) + 3))) 40 0 (wr ((G 25 0 20) + 1)))) < 296 then
  rI 0 (up (up G 25 0 20 (wr ((wr ((G 25 0 20) + 1)) + 3))) 26 0 (wr ((wr (200 + (wr (8 * ((up G 25 0 20 (wr ((wr ((G 25 0 20) + 1)) + 3))) 40 0 (wr ((wr ((G 25 0 20) + 1)) + 1))))))) + ((up G 25 0 20 (wr ((wr ((G 25 0 20) + 1)) + 3))) 40 0 (wr ((G 25 0 20) + 1))))) ((up G 25 0 20 (wr ((wr ((G 25 0 20) + 1)) + 3))) 40 0 (wr ((wr ((G 25 0 20) + 1)) + 2))))
  else none
  else none
  else none
  else none
  else none := (run_fix _ _ _ _ _).trans rfl
set_option maxRecDepth 20000 in
theorem e_f_Mod_swaps (G : GG) : f_Mod_swaps  G =
  l_Mod_swaps_2 0 G := (run_fix _ _ _ _ _).trans rfl
set_option maxRecDepth 20000 in
theorem e_l_Mod_swaps_2 (x1 : Int) (G : GG) : l_Mod_swaps_2 x1 G =
  if x1 < 296 then
    if 0 ≤ x1 ∧ x1 < 296 then
    if 0 ≤ x1 ∧ x1 < 296 then
    if 0 ≤ x1 ∧ x1 < 296 then
    if 0 ≤ x1 ∧ x1 < 296 then
    l_Mod_swaps_2 (wr (x1 + 1)) (up (up G 26 0 x1 (G 27 0 x1)) 27 0 x1 (G 26 0 x1))
    else none
    else none
    else none
    else none
  else
  rV G := (run_fix _ _ _ _ _).trans rfl
set_option maxRecDepth 20000 in
theorem e_f_Mod_keeps (G : GG) : f_Mod_keeps  G =
  if G 25 0 5 = 8 then
    l_Mod_keeps_13 296 G
  else
  l_Mod_keeps_54 0 G := (run_fix _ _ _ _ _).trans rfl
set_option maxRecDepth 20000 in
theorem e_l_Mod_keeps_13 (x1 : Int) (G : GG) : l_Mod_keeps_13 x1 G =
  if x1 < 2368 then
    if 0 ≤ x1 ∧ x1 < 2368 then
    if 0 ≤ wr (x1 - 296) ∧ wr (x1 - 296) < 2368 then
    l_Mod_keeps_13 (wr (x1 + 1)) (up G 29 0 (wr (x1 - 296)) (G 29 0 x1))
    else none
    else none
  else
  l_Mod_keeps_54 0 (up G 25 0 5 (wr ((G 25 0 5) - 1))) := (run_fix _ _ _ _ _).trans rfl
set_option maxRecDepth 20000 in
theorem e_l_Mod_keeps_54 (x1 : Int) (G : GG) : l_Mod_keeps_54 x1 G =
  if x1 < 296 then
    if 0 ≤ x1 ∧ x1 < 296 then
    if 0 ≤ wr ((wr (296 * (G 25 0 5))) + x1) ∧ wr ((wr (296 * (G 25 0 5))) + x1) < 2368 then
    l_Mod_keeps_54 (wr (x1 + 1)) (up G 29 0 (wr ((wr (296 * (G 25 0 5))) + x1)) (G 26 0 x1))
    else none
    else none
  else
  rV (up (up G 25 0 5 (wr ((G 25 0 5) + 1))) 25 0 11 0) := (run_fix _ _ _ _ _).trans rfl
set_option maxRecDepth 20000 in
theorem e_f_Mod_copies_mdraft_ms (G : GG) : f_Mod_copies_mdraft_ms  G =
  l_Mod_copies_mdraft_ms_2 0 G := (run_fix _ _ _ _ _).trans rfl
set_option maxRecDepth 20000 in
theorem e_l_Mod_copies_mdraft_ms_2 (x2 : Int) (G : GG) : l_Mod_copies_mdraft_ms_2 x2 G =
  if x2 < 296 then
    if 0 ≤ x2 ∧ x2 < 296 then
    if 0 ≤ x2 ∧ x2 < 296 then
    l_Mod_copies_mdraft_ms_2 (wr (x2 + 1)) (up G 26 0 x2 (G 27 0 x2))
    else none
    else none
  else
  rV G := (run_fix _ _ _ _ _).trans rfl
set_option maxRecDepth 20000 in
theorem e_f_Mod_isPoint (x1 : Int) (G : GG) : f_Mod_isPoint x1 G =
  bI (f_Mod_isIn x1 0 (wr ((G 26 0 127) - 1)) G) fun r2 G1 =>
  if 0 ≤ r2 ∧ r2 ≤ 1 then
  rI r2 G1
  else none := (run_fix _ _ _ _ _).trans rfl
set_option maxRecDepth 20000 in
theorem e_f_Mod_placeOf (x1 : Int) (x2 : Int) (G : GG) : f_Mod_placeOf x1 x2 G =
  bV (f_Mod_knows G) fun G1 =>
  if 0 ≤ wr ((wr (12 * x1)) + x2) ∧ wr ((wr (12 * x1)) + x2) < 60 then
  rI (G1 38 0 (wr ((wr (12 * x1)) + x2))) G1
  else none := (run_fix _ _ _ _ _).trans rfl
set_option maxRecDepth 20000 in
theorem e_f_Mod_placed (x1 : Int) (G : GG) : f_Mod_placed x1 G =
  l_Mod_placed_4 x1 0 0 G := (run_fix _ _ _ _ _).trans rfl
set_option maxRecDepth 20000 in
theorem e_l_Mod_placed_4 (x1 : Int) (x2 : Int) (x3 : Int) (G : GG) : l_Mod_placed_4 x1 x2 x3 G =
  if x3 < G 26 0 127 then
    bI (f_Mod_placeOf x1 x3 G) fun r2 G1 =>
    if r2 < 0 then
      l_Mod_placed_4 x1 (wr (x2 + 0)) (wr (x3 + 1)) G1
    else
    l_Mod_placed_4 x1 (wr (x2 + 1)) (wr (x3 + 1)) G1
  else
  rI x2 G := (run_fix _ _ _ _ _).trans rfl
set_option maxRecDepth 20000 in
theorem e_f_Mod_shownOnes (x1 : Int) (G : GG) : f_Mod_shownOnes x1 G =
  l_Mod_shownOnes_4 x1 0 0 G := (run_fix _ _ _ _ _).trans rfl
set_option maxRecDepth 20000 in
theorem e_l_Mod_shownOnes_4 (x1 : Int) (x2 : Int) (x3 : Int) (G : GG) : l_Mod_shownOnes_4 x1 x2 x3 G =
  if x3 < G 26 0 127 then
    bI (f_Mod_isShown x1 x3 G) fun r2 G1 =>
    if r2 = 0 then
      l_Mod_shownOnes_4 x1 (bOr x2 0) (wr (x3 + 1)) G1
    else
    l_Mod_shownOnes_4 x1 (bOr x2 (bShl 1 x3)) (wr (x3 + 1)) G1
  else
  rI x2 G := (run_fix _ _ _ _ _).trans rfl
set_option maxRecDepth 20000 in
theorem e_f_Mod_bits (x0 : Int) (G : GG) : f_Mod_bits x0 G =
  l_Mod_bits_4 0 x0 G := (run_fix _ _ _ _ _).trans rfl
set_option maxRecDepth 20000 in
theorem e_l_Mod_bits_4 (x1 : Int) (x2 : Int) (G : GG) : l_Mod_bits_4 x1 x2 G =
  if x2 = 0 then
    rI x1 G
  else
  l_Mod_bits_4 (wr (x1 + 1)) (bAnd x2 (wr (x2 - 1))) G := (run_fix _ _ _ _ _).trans rfl
set_option maxRecDepth 20000 in
theorem e_f_Mod_ofPoint (x1 : Int) (x2 : Int) (G : GG) : f_Mod_ofPoint x1 x2 G =
  if 0 ≤ wr ((wr (128 + (wr (6 * x1)))) + x2) ∧ wr ((wr (128 + (wr (6 * x1)))) + x2) < 296 then
  rI (G 26 0 (wr ((wr (128 + (wr (6 * x1)))) + x2))) G
  else none := (run_fix _ _ _ _ _).trans rfl
set_option maxRecDepth 20000 in
theorem e_f_Mod_isPlace (x0 : Int) (x1 : Int) (G : GG) : f_Mod_isPlace x0 x1 G =
  bI (f_Mod_isIn x0 0 63 G) fun r2 G1 =>
  if r2 = 0 then
    rI 0 G1
  else
  bI (f_Mod_isIn x1 0 63 G1) fun r4 G3 =>
  if r4 = 0 then
    rI 0 G3
  else
  rI 1 G3 := (run_fix _ _ _ _ _).trans rfl
set_option maxRecDepth 20000 in
theorem e_f_Mod_covers (x1 : Int) (x2 : Int) (x3 : Int) (x4 : Int) (G : GG) : f_Mod_covers x1 x2 x3 x4 G =
  bI (f_Mod_left x1 x2 G) fun r2 G1 =>
  bI (f_Mod_low x1 x2 G1) fun r4 G3 =>
  bI (f_Mod_ofPoint x1 3 G3) fun r6 G5 =>
  bI (f_Mod_isIn (wr (x3 - r2)) 0 (wr (r6 - 1)) G5) fun r8 G7 =>
  if r8 = 0 then
    rI 0 G7
  else
  bI (f_Mod_ofPoint x1 4 G7) fun r10 G9 =>
  bI (f_Mod_isIn (wr (x4 - r4)) 0 (wr (r10 - 1)) G9) fun r12 G11 =>
  if r12 = 0 then
    rI 0 G11
  else
  rI 1 G11 := (run_fix _ _ _ _ _).trans rfl
set_option maxRecDepth 20000 in
theorem e_f_Mod_refused (x1 : Int) (x2 : Int) (x3 : Int) (G : GG) : f_Mod_refused x1 x2 x3 G =
  bI (f_Mod_left x2 x3 G) fun r2 G1 =>
  bI (f_Mod_low x2 x3 G1) fun r4 G3 =>
  if r2 < 0 then
    rI 1 G3
  else
  if r4 < 0 then
    rI 1 G3
  else
  bI (f_Mod_ofPoint x2 3 G3) fun r6 G5 =>
  if 63 < wr ((wr (r2 + r6)) - 1) then
    rI 1 G5
  else
  bI (f_Mod_ofPoint x2 4 G5) fun r8 G7 =>
  if 63 < wr ((wr (r4 + r8)) - 1) then
    rI 1 G7
  else
  l_Mod_refused_63 x1 x2 x3 0 G7 := (run_fix _ _ _ _ _).trans rfl
set_option maxRecDepth 20000 in
theorem e_l_Mod_refused_63 (x1 : Int) (x2 : Int) (x3 : Int) (x6 : Int) (G : GG) : l_Mod_refused_63 x1 x2 x3 x6 G =
  if x6 < G 26 0 127 then
    bI (f_Mod_isShown x1 x6 G) fun r2 G1 =>
    if r2 = 0 then
      l_Mod_refused_63 x1 x2 x3 (wr (x6 + 1)) G1
    else
    bI (f_Mod_ofPoint x6 0 G1) fun r4 G3 =>
    bI (f_Mod_ofPoint x6 1 G3) fun r6 G5 =>
    bI (f_Mod_covers x2 x3 r4 r6 G5) fun r8 G7 =>
    if r8 = 0 then
      l_Mod_refused_63 x1 x2 x3 (wr (x6 + 1)) G7
    else
    rI 2 G7
  else
  l_Mod_refused_119 x1 x2 x3 0 G := (run_fix _ _ _ _ _).trans rfl
set_option maxRecDepth 20000 in
theorem e_l_Mod_refused_119 (x1 : Int) (x2 : Int) (x3 : Int) (x6 : Int) (G : GG) : l_Mod_refused_119 x1 x2 x3 x6 G =
  if x6 < G 26 0 127 then
    if 0 ≤ wr ((wr (12 * x1)) + x6) ∧ wr ((wr (12 * x1)) + x6) < 60 then
    bI (f_Mod_isShown x1 x6 G) fun r2 G1 =>
    if r2 = 0 then
      l_Mod_refused_119 x1 x2 x3 (wr (x6 + 1)) G1
    else
    bI (f_Mod_isAhead x6 x2 G1) fun r4 G3 =>
    if r4 = 0 then
      l_Mod_refused_119 x1 x2 x3 (wr (x6 + 1)) G3
    else
    if G 38 0 (wr ((wr (12 * x1)) + x6)) < 0 then
      l_Mod_refused_119 x1 x2 x3 (wr (x6 + 1)) G3
    else
    bI (f_Mod_overlap x2 x3 x6 (G 38 0 (wr ((wr (12 * x1)) + x6))) G3) fun r6 G5 =>
    if r6 = 0 then
      l_Mod_refused_119 x1 x2 x3 (wr (x6 + 1)) G5
    else
    rI 3 G5
    else none
  else
  l_Mod_refused_194 x2 x3 0 G := (run_fix _ _ _ _ _).trans rfl
set_option maxRecDepth 20000 in
theorem e_l_Mod_refused_194 (x2 : Int) (x3 : Int) (x6 : Int) (G : GG) : l_Mod_refused_194 x2 x3 x6 G =
  if x6 < G 26 0 0 then
    l_Mod_refused_208 x2 x3 x6 0 G
  else
  rI 0 G := (run_fix _ _ _ _ _).trans rfl
set_option maxRecDepth 20000 in
theorem e_l_Mod_refused_208 (x2 : Int) (x3 : Int) (x6 : Int) (x7 : Int) (G : GG) : l_Mod_refused_208 x2 x3 x6 x7 G =
  if 0 ≤ x6 ∧ x6 < 6 then
  if x7 < G 30 0 x6 then
    if 0 ≤ wr ((wr (10 * x6)) + x7) ∧ wr ((wr (10 * x6)) + x7) < 60 then
    if 0 ≤ wr ((wr (10 * x6)) + x7) ∧ wr ((wr (10 * x6)) + x7) < 60 then
    bI (f_Mod_covers x2 x3 (G 31 0 (wr ((wr (10 * x6)) + x7))) (G 32 0 (wr ((wr (10 * x6)) + x7))) G) fun r2 G1 =>
    if r2 = 0 then
      l_Mod_refused_208 x2 x3 x6 (wr (x7 + 1)) G1
    else
    rI 4 G1
    else none
    else none
  else
  l_Mod_refused_194 x2 x3 (wr (x6 + 1)) G
  else none := (run_fix _ _ _ _ _).trans rfl
set_option maxRecDepth 20000 in
theorem e_f_Mod_isShown (x1 : Int) (x2 : Int) (G : GG) : f_Mod_isShown x1 x2 G =
  if x1 = 0 then
    rI 1 G
  else
  bI (f_Mod_ofPoint x2 2 G) fun r2 G1 =>
  bI (f_Mod_of x1 2 G1) fun r4 G3 =>
  if r2 < r4 then
    rI 0 G3
  else
  rI 1 G3 := (run_fix _ _ _ _ _).trans rfl
set_option maxRecDepth 20000 in
theorem e_f_Mod_knows (G : GG) : f_Mod_knows  G =
  if G 25 0 11 = 0 then
    l_Mod_knows_15 0 (up G 25 0 11 1)
  else
  rV G := (run_fix _ _ _ _ _).trans rfl
set_option maxRecDepth 20000 in
theorem e_l_Mod_knows_15 (x1 : Int) (G : GG) : l_Mod_knows_15 x1 G =
  if x1 < G 26 0 0 then
    if 0 ≤ wr (1 + x1) ∧ wr (1 + x1) < 296 then
    if 0 ≤ x1 ∧ x1 < 30 then
    l_Mod_knows_41 x1 0 (up G 34 0 x1 (G 26 0 (wr (1 + x1))))
    else none
    else none
  else
  bV (f_Mod_takesLevel 0 G) fun G1 =>
  l_Mod_knows_82 0 G1 := (run_fix _ _ _ _ _).trans rfl
set_option maxRecDepth 20000 in
theorem e_l_Mod_knows_41 (x1 : Int) (x2 : Int) (G : GG) : l_Mod_knows_41 x1 x2 G =
  if 0 ≤ x1 ∧ x1 < 30 then
  if x2 < G 34 0 x1 then
    if 0 ≤ wr ((wr (10 * x1)) + x2) ∧ wr ((wr (10 * x1)) + x2) < 300 then
    l_Mod_knows_41 x1 (wr (x2 + 1)) (up G 35 0 (wr ((wr (10 * x1)) + x2)) x2)
    else none
  else
  l_Mod_knows_15 (wr (x1 + 1)) G
  else none := (run_fix _ _ _ _ _).trans rfl
set_option maxRecDepth 20000 in
theorem e_l_Mod_knows_82 (x1 : Int) (G : GG) : l_Mod_knows_82 x1 G =
  if x1 < 64 then
    if 0 ≤ wr (200 + x1) ∧ wr (200 + x1) < 296 then
    if 0 ≤ x1 ∧ x1 < 320 then
    l_Mod_knows_82 (wr (x1 + 1)) (up G 36 0 x1 (G 26 0 (wr (200 + x1))))
    else none
    else none
  else
  l_Mod_knows_112 0 G := (run_fix _ _ _ _ _).trans rfl
set_option maxRecDepth 20000 in
theorem e_l_Mod_knows_112 (x1 : Int) (G : GG) : l_Mod_knows_112 x1 G =
  if x1 < 16 then
    if 0 ≤ x1 ∧ x1 < 80 then
    l_Mod_knows_112 (wr (x1 + 1)) (up G 37 0 x1 x1)
    else none
  else
  bV (f_Mod_places 0 G) fun G1 =>
  l_Mod_knows_138 1 G1 := (run_fix _ _ _ _ _).trans rfl
set_option maxRecDepth 20000 in
theorem e_l_Mod_knows_138 (x1 : Int) (G : GG) : l_Mod_knows_138 x1 G =
  if x1 < 5 then
    l_Mod_knows_145 x1 1 G
  else
  rV G := (run_fix _ _ _ _ _).trans rfl
set_option maxRecDepth 20000 in
theorem e_l_Mod_knows_145 (x1 : Int) (x2 : Int) (G : GG) : l_Mod_knows_145 x1 x2 G =
  if x2 = 0 then
    bV (f_Mod_keepsLines x1 G) fun G1 =>
    l_Mod_knows_170 x1 0 G1
  else
  bI (f_Mod_of x1 0 G) fun r3 G2 =>
  bI (f_Mod_removesOne r3 G2) fun r5 G4 =>
  l_Mod_knows_145 x1 r5 G4 := (run_fix _ _ _ _ _).trans rfl
set_option maxRecDepth 20000 in
theorem e_l_Mod_knows_170 (x1 : Int) (x3 : Int) (G : GG) : l_Mod_knows_170 x1 x3 G =
  if x3 < 64 then
    if 0 ≤ wr ((wr (64 * (wr (x1 - 1)))) + x3) ∧ wr ((wr (64 * (wr (x1 - 1)))) + x3) < 320 then
    if 0 ≤ wr ((wr (64 * x1)) + x3) ∧ wr ((wr (64 * x1)) + x3) < 320 then
    l_Mod_knows_170 x1 (wr (x3 + 1)) (up G 36 0 (wr ((wr (64 * x1)) + x3)) (G 36 0 (wr ((wr (64 * (wr (x1 - 1)))) + x3))))
    else none
    else none
  else
  l_Mod_knows_208 x1 0 G := (run_fix _ _ _ _ _).trans rfl
set_option maxRecDepth 20000 in
theorem e_l_Mod_knows_208 (x1 : Int) (x3 : Int) (G : GG) : l_Mod_knows_208 x1 x3 G =
  if x3 < 16 then
    if 0 ≤ wr ((wr (16 * (wr (x1 - 1)))) + x3) ∧ wr ((wr (16 * (wr (x1 - 1)))) + x3) < 80 then
    if 0 ≤ wr ((wr (16 * x1)) + x3) ∧ wr ((wr (16 * x1)) + x3) < 80 then
    l_Mod_knows_208 x1 (wr (x3 + 1)) (up G 37 0 (wr ((wr (16 * x1)) + x3)) (G 37 0 (wr ((wr (16 * (wr (x1 - 1)))) + x3))))
    else none
    else none
  else
  l_Mod_knows_246 x1 1 G := (run_fix _ _ _ _ _).trans rfl
set_option maxRecDepth 20000 in
theorem e_l_Mod_knows_246 (x1 : Int) (x2 : Int) (G : GG) : l_Mod_knows_246 x1 x2 G =
  if x2 = 0 then
    bV (f_Mod_places x1 G) fun G1 =>
    l_Mod_knows_138 (wr (x1 + 1)) G1
  else
  bI (f_Mod_mergesOne x1 G) fun r3 G2 =>
  l_Mod_knows_246 x1 r3 G2 := (run_fix _ _ _ _ _).trans rfl
set_option maxRecDepth 20000 in
theorem e_f_Mod_isOfClass (x1 : Int) (x2 : Int) (x3 : Int) (G : GG) : f_Mod_isOfClass x1 x2 x3 G =
  if 0 ≤ wr ((wr (64 * x1)) + x2) ∧ wr ((wr (64 * x1)) + x2) < 320 then
  if G 36 0 (wr ((wr (64 * x1)) + x2)) < 0 then
    rI 0 G
  else
  if 0 ≤ wr (264 + (G 36 0 (wr ((wr (64 * x1)) + x2)))) ∧ wr (264 + (G 36 0 (wr ((wr (64 * x1)) + x2)))) < 296 then
  if G 26 0 (wr (264 + (G 36 0 (wr ((wr (64 * x1)) + x2))))) = x3 then
    rI 1 G
  else
  rI 0 G
  else none
  else none := (run_fix _ _ _ _ _).trans rfl
set_option maxRecDepth 20000 in
theorem e_f_Mod_isSmall (x1 : Int) (x2 : Int) (G : GG) : f_Mod_isSmall x1 x2 G =
  bI (f_Mod_areaOf x1 x2 G) fun r2 G1 =>
  bI (f_Mod_of x1 1 G1) fun r4 G3 =>
  bI (f_Mod_isIn r2 1 (wr (r4 - 1)) G3) fun r6 G5 =>
  if 0 ≤ r6 ∧ r6 ≤ 1 then
  rI r6 G5
  else none := (run_fix _ _ _ _ _).trans rfl
set_option maxRecDepth 20000 in
theorem e_f_Mod_manyParcels (x1 : Int) (x2 : Int) (G : GG) : f_Mod_manyParcels x1 x2 G =
  l_Mod_manyParcels_5 x1 x2 0 0 G := (run_fix _ _ _ _ _).trans rfl
set_option maxRecDepth 20000 in
theorem e_l_Mod_manyParcels_5 (x1 : Int) (x2 : Int) (x3 : Int) (x4 : Int) (G : GG) : l_Mod_manyParcels_5 x1 x2 x3 x4 G =
  if x4 < 16 then
    bI (f_Mod_areaOf x1 x4 G) fun r2 G1 =>
    if 0 < r2 then
      if x2 < 0 then
        l_Mod_manyParcels_5 x1 x2 (wr (x3 + 1)) (wr (x4 + 1)) G1
      else
      if 0 ≤ wr (264 + x4) ∧ wr (264 + x4) < 296 then
      if G1 26 0 (wr (264 + x4)) = x2 then
        l_Mod_manyParcels_5 x1 x2 (wr (x3 + 1)) (wr (x4 + 1)) G1
      else
      l_Mod_manyParcels_5 x1 x2 (wr (x3 + 0)) (wr (x4 + 1)) G1
      else none
    else
    l_Mod_manyParcels_5 x1 x2 (wr (x3 + 0)) (wr (x4 + 1)) G1
  else
  rI x3 G := (run_fix _ _ _ _ _).trans rfl
set_option maxRecDepth 20000 in
theorem e_f_Mod_isParcel (x0 : Int) (G : GG) : f_Mod_isParcel x0 G =
  bI (f_Mod_isIn x0 0 15 G) fun r2 G1 =>
  if 0 ≤ r2 ∧ r2 ≤ 1 then
  rI r2 G1
  else none := (run_fix _ _ _ _ _).trans rfl
set_option maxRecDepth 20000 in
theorem e_f_Mod_fieldsOf (x1 : Int) (G : GG) : f_Mod_fieldsOf x1 G =
  l_Mod_fieldsOf_4 x1 0 0 G := (run_fix _ _ _ _ _).trans rfl
set_option maxRecDepth 20000 in
theorem e_l_Mod_fieldsOf_4 (x1 : Int) (x2 : Int) (x3 : Int) (G : GG) : l_Mod_fieldsOf_4 x1 x2 x3 G =
  if x3 < 64 then
    if 0 ≤ wr (200 + x3) ∧ wr (200 + x3) < 296 then
    if G 26 0 (wr (200 + x3)) = x1 then
      l_Mod_fieldsOf_4 x1 (wr (x2 + 1)) (wr (x3 + 1)) G
    else
    l_Mod_fieldsOf_4 x1 (wr (x2 + 0)) (wr (x3 + 1)) G
    else none
  else
  rI x2 G := (run_fix _ _ _ _ _).trans rfl
set_option maxRecDepth 20000 in
theorem e_f_Mod_borderOf (x1 : Int) (x2 : Int) (x3 : Int) (G : GG) : f_Mod_borderOf x1 x2 x3 G =
  if x2 = x3 then
    rI 0 G
  else
  bI (f_Mod_pairs x1 x2 x3 G) fun r2 G1 =>
  rI r2 G1 := (run_fix _ _ _ _ _).trans rfl
set_option maxRecDepth 20000 in
theorem e_f_Mod_areaOf (x1 : Int) (x2 : Int) (G : GG) : f_Mod_areaOf x1 x2 G =
  l_Mod_areaOf_5 x1 x2 0 0 G := (run_fix _ _ _ _ _).trans rfl
set_option maxRecDepth 20000 in
theorem e_l_Mod_areaOf_5 (x1 : Int) (x2 : Int) (x3 : Int) (x4 : Int) (G : GG) : l_Mod_areaOf_5 x1 x2 x3 x4 G =
  if x4 < 64 then
    if 0 ≤ wr ((wr (64 * x1)) + x4) ∧ wr ((wr (64 * x1)) + x4) < 320 then
    if G 36 0 (wr ((wr (64 * x1)) + x4)) = x2 then
      l_Mod_areaOf_5 x1 x2 (wr (x3 + 1)) (wr (x4 + 1)) G
    else
    l_Mod_areaOf_5 x1 x2 (wr (x3 + 0)) (wr (x4 + 1)) G
    else none
  else
  rI x3 G := (run_fix _ _ _ _ _).trans rfl
set_option maxRecDepth 20000 in
theorem e_f_Mod_lineWith (x1 : Int) (x2 : Int) (G : GG) : f_Mod_lineWith x1 x2 G =
  l_Mod_lineWith_2 x1 x2 0 G := (run_fix _ _ _ _ _).trans rfl
set_option maxRecDepth 20000 in
theorem e_l_Mod_lineWith_2 (x1 : Int) (x2 : Int) (x3 : Int) (G : GG) : l_Mod_lineWith_2 x1 x2 x3 G =
  if x3 < G 26 0 0 then
    l_Mod_lineWith_15 x1 x2 x3 0 G
  else
  rI (-1) G := (run_fix _ _ _ _ _).trans rfl
set_option maxRecDepth 20000 in
theorem e_l_Mod_lineWith_15 (x1 : Int) (x2 : Int) (x3 : Int) (x4 : Int) (G : GG) : l_Mod_lineWith_15 x1 x2 x3 x4 G =
  if 0 ≤ x3 ∧ x3 < 6 then
  if wr (x4 + 1) < G 30 0 x3 then
    bI (f_Mod_isOnSegment x1 x2 (wr ((wr (10 * x3)) + x4)) (wr ((wr ((wr (10 * x3)) + x4)) + 1)) G) fun r2 G1 =>
    if r2 = 0 then
      l_Mod_lineWith_15 x1 x2 x3 (wr (x4 + 1)) G1
    else
    rI x3 G1
  else
  l_Mod_lineWith_2 x1 x2 (wr (x3 + 1)) G
  else none := (run_fix _ _ _ _ _).trans rfl
set_option maxRecDepth 20000 in
theorem e_f_Mod_manyVertices (x1 : Int) (G : GG) : f_Mod_manyVertices x1 G =
  l_Mod_manyVertices_4 x1 0 0 G := (run_fix _ _ _ _ _).trans rfl
set_option maxRecDepth 20000 in
theorem e_l_Mod_manyVertices_4 (x1 : Int) (x2 : Int) (x3 : Int) (G : GG) : l_Mod_manyVertices_4 x1 x2 x3 G =
  if x3 < G 26 0 0 then
    if 0 ≤ wr ((wr (6 * x1)) + x3) ∧ wr ((wr (6 * x1)) + x3) < 30 then
    l_Mod_manyVertices_4 x1 (wr (x2 + (G 34 0 (wr ((wr (6 * x1)) + x3))))) (wr (x3 + 1)) G
    else none
  else
  rI x2 G := (run_fix _ _ _ _ _).trans rfl
set_option maxRecDepth 20000 in
theorem e_f_Mod_wrongVertex (x1 : Int) (x2 : Int) (x3 : Int) (G : GG) : f_Mod_wrongVertex x1 x2 x3 G =
  bI (f_Mod_isLevel x1 G) fun r2 G1 =>
  if r2 = 0 then
    rI 1 G1
  else
  bI (f_Mod_isLine x2 G1) fun r4 G3 =>
  if r4 = 0 then
    rI 2 G3
  else
  bV (f_Mod_looks x1 G3) fun G5 =>
  if 0 ≤ x2 ∧ x2 < 6 then
  bI (f_Mod_isIn x3 0 (wr ((G5 30 0 x2) - 1)) G5) fun r7 G6 =>
  if r7 = 0 then
    rI 2 G6
  else
  rI 0 G6
  else none := (run_fix _ _ _ _ _).trans rfl
set_option maxRecDepth 20000 in
theorem e_f_Mod_weightOf (x1 : Int) (x2 : Int) (G : GG) : f_Mod_weightOf x1 x2 G =
  if x2 = 0 then
    rI (-1) G
  else
  if 0 ≤ x1 ∧ x1 < 6 then
  if x2 = wr ((G 30 0 x1) - 1) then
    rI (-1) G
  else
  if 0 ≤ wr ((wr (10 * x1)) + x2) ∧ wr ((wr (10 * x1)) + x2) < 60 then
  if 0 ≤ wr ((wr ((wr (10 * x1)) + x2)) - 1) ∧ wr ((wr ((wr (10 * x1)) + x2)) - 1) < 60 then
  if 0 ≤ wr ((wr ((wr (10 * x1)) + x2)) + 1) ∧ wr ((wr ((wr (10 * x1)) + x2)) + 1) < 60 then
  if 0 ≤ wr ((wr ((wr (10 * x1)) + x2)) - 1) ∧ wr ((wr ((wr (10 * x1)) + x2)) - 1) < 60 then
  if 0 ≤ wr ((wr (10 * x1)) + x2) ∧ wr ((wr (10 * x1)) + x2) < 60 then
  if 0 ≤ wr ((wr ((wr (10 * x1)) + x2)) - 1) ∧ wr ((wr ((wr (10 * x1)) + x2)) - 1) < 60 then
  if 0 ≤ wr ((wr ((wr (10 * x1)) + x2)) + 1) ∧ wr ((wr ((wr (10 * x1)) + x2)) + 1) < 60 then
  if 0 ≤ wr ((wr ((wr (10 * x1)) + x2)) - 1) ∧ wr ((wr ((wr (10 * x1)) + x2)) - 1) < 60 then
  rI (mAbs (wr ((wr ((wr ((G 31 0 (wr ((wr (10 * x1)) + x2))) - (G 31 0 (wr ((wr ((wr (10 * x1)) + x2)) - 1))))) * (wr ((G 32 0 (wr ((wr ((wr (10 * x1)) + x2)) + 1))) - (G 32 0 (wr ((wr ((wr (10 * x1)) + x2)) - 1))))))) - (wr ((wr ((G 32 0 (wr ((wr (10 * x1)) + x2))) - (G 32 0 (wr ((wr ((wr (10 * x1)) + x2)) - 1))))) * (wr ((G 31 0 (wr ((wr ((wr (10 * x1)) + x2)) + 1))) - (G 31 0 (wr ((wr ((wr (10 * x1)) + x2)) - 1)))))))))) G
  else none
  else none
  else none
  else none
  else none
  else none
  else none
  else none
  else none := (run_fix _ _ _ _ _).trans rfl
set_option maxRecDepth 20000 in
theorem e_f_Mod_of (x1 : Int) (x2 : Int) (G : GG) : f_Mod_of x1 x2 G =
  if 0 < x1 then
    bI (f_Mod_setting x1 x2 1 G) fun r2 G1 =>
    rI r2 G1
  else
  bI (f_Mod_setting x1 x2 0 G) fun r4 G3 =>
  rI r4 G3 := (run_fix _ _ _ _ _).trans rfl
set_option maxRecDepth 20000 in
theorem e_f_Mod_reason (x1 : Int) (x2 : Int) (x3 : Int) (G : GG) : f_Mod_reason x1 x2 x3 G =
  bI (f_Mod_weightOf x1 x2 G) fun r2 G1 =>
  if r2 < 0 then
    rI 1 G1
  else
  if x3 < r2 then
    rI 2 G1
  else
  bI (f_Mod_hasPoint (wr ((wr (10 * x1)) + x2)) G1) fun r4 G3 =>
  if r4 = 0 then
    bI (f_Mod_wouldMeet x1 x2 G3) fun r6 G5 =>
    if r6 = 0 then
      rI 0 G5
    else
    rI 4 G5
  else
  rI 3 G3 := (run_fix _ _ _ _ _).trans rfl
set_option maxRecDepth 20000 in
theorem e_f_Mod_isKept (x1 : Int) (x2 : Int) (x3 : Int) (G : GG) : f_Mod_isKept x1 x2 x3 G =
  l_Mod_isKept_3 x1 x2 x3 0 G := (run_fix _ _ _ _ _).trans rfl
set_option maxRecDepth 20000 in
theorem e_l_Mod_isKept_3 (x1 : Int) (x2 : Int) (x3 : Int) (x4 : Int) (G : GG) : l_Mod_isKept_3 x1 x2 x3 x4 G =
  if 0 ≤ wr ((wr (6 * x1)) + x2) ∧ wr ((wr (6 * x1)) + x2) < 30 then
  if x4 < G 34 0 (wr ((wr (6 * x1)) + x2)) then
    if 0 ≤ wr ((wr ((wr ((wr (6 * x1)) + x2)) * 10)) + x4) ∧ wr ((wr ((wr ((wr (6 * x1)) + x2)) * 10)) + x4) < 300 then
    if G 35 0 (wr ((wr ((wr ((wr (6 * x1)) + x2)) * 10)) + x4)) = x3 then
      rI 1 G
    else
    l_Mod_isKept_3 x1 x2 x3 (wr (x4 + 1)) G
    else none
  else
  rI 0 G
  else none := (run_fix _ _ _ _ _).trans rfl
set_option maxRecDepth 20000 in
theorem e_f_Mod_addsPoint (x1 : Int) (x2 : Int) (x3 : Int) (x4 : Int) (x5 : Int) (x6 : Int) (G : GG) : f_Mod_addsPoint x1 x2 x3 x4 x5 x6 G =
  if 0 ≤ wr (128 + (wr (6 * (G 26 0 127)))) ∧ wr (128 + (wr (6 * (G 26 0 127)))) < 296 then
  if 0 ≤ wr ((wr (128 + (wr (6 * (G 26 0 127))))) + 1) ∧ wr ((wr (128 + (wr (6 * (G 26 0 127))))) + 1) < 296 then
  if 0 ≤ wr ((wr (128 + (wr (6 * (G 26 0 127))))) + 2) ∧ wr ((wr (128 + (wr (6 * (G 26 0 127))))) + 2) < 296 then
  if 0 ≤ wr ((wr (128 + (wr (6 * (G 26 0 127))))) + 3) ∧ wr ((wr (128 + (wr (6 * (G 26 0 127))))) + 3) < 296 then
  if 0 ≤ wr ((wr (128 + (wr (6 * (G 26 0 127))))) + 4) ∧ wr ((wr (128 + (wr (6 * (G 26 0 127))))) + 4) < 296 then
  if 0 ≤ wr ((wr (128 + (wr (6 * (G 26 0 127))))) + 5) ∧ wr ((wr (128 + (wr (6 * (G 26 0 127))))) + 5) < 296 then
  rV (up (up (up (up (up (up (up G 26 0 (wr (128 + (wr (6 * (G 26 0 127))))) x1) 26 0 (wr ((wr (128 + (wr (6 * (G 26 0 127))))) + 1)) x2) 26 0 (wr ((wr (128 + (wr (6 * (G 26 0 127))))) + 2)) x3) 26 0 (wr ((wr (128 + (wr (6 * (G 26 0 127))))) + 3)) x4) 26 0 (wr ((wr (128 + (wr (6 * (G 26 0 127))))) + 4)) x5) 26 0 (wr ((wr (128 + (wr (6 * (G 26 0 127))))) + 5)) x6) 26 0 127 (wr (((up (up (up (up (up (up G 26 0 (wr (128 + (wr (6 * (G 26 0 127))))) x1) 26 0 (wr ((wr (128 + (wr (6 * (G 26 0 127))))) + 1)) x2) 26 0 (wr ((wr (128 + (wr (6 * (G 26 0 127))))) + 2)) x3) 26 0 (wr ((wr (128 + (wr (6 * (G 26 0 127))))) + 3)) x4) 26 0 (wr ((wr (128 + (wr (6 * (G 26 0 127))))) + 4)) x5) 26 0 (wr ((wr (128 + (wr (6 * (G 26 0 127))))) + 5)) x6) 26 0 127) + 1)))
  else none
  else none
  else none
  else none
  else none
  else none := (run_fix _ _ _ _ _).trans rfl
set_option maxRecDepth 20000 in
theorem e_f_Mod_wrongPoint (x1 : Int) (x2 : Int) (G : GG) : f_Mod_wrongPoint x1 x2 G =
  bI (f_Mod_pointAt x1 x2 G) fun r2 G1 =>
  if r2 < 0 then
    bI (f_Mod_isOnMap x1 x2 G1) fun r4 G3 =>
    if r4 = 0 then
      if G3 26 0 127 = 12 then
        rI 3 G3
      else
      rI 0 G3
    else
    rI 2 G3
  else
  rI 2 G1 := (run_fix _ _ _ _ _).trans rfl
set_option maxRecDepth 20000 in
theorem e_f_Mod_begins (G : GG) : f_Mod_begins  G =
  l_Mod_begins_2 0 G := (run_fix _ _ _ _ _).trans rfl
set_option maxRecDepth 20000 in
theorem e_l_Mod_begins_2 (x1 : Int) (G : GG) : l_Mod_begins_2 x1 G =
  if x1 < 296 then
    if 0 ≤ x1 ∧ x1 < 296 then
    l_Mod_begins_2 (wr (x1 + 1)) (up G 26 0 x1 0)
    else none
  else
  l_Mod_begins_24 0 G := (run_fix _ _ _ _ _).trans rfl
set_option maxRecDepth 20000 in
theorem e_l_Mod_begins_24 (x1 : Int) (G : GG) : l_Mod_begins_24 x1 G =
  if x1 < 64 then
    if 0 ≤ wr (200 + x1) ∧ wr (200 + x1) < 296 then
    l_Mod_begins_24 (wr (x1 + 1)) (up G 26 0 (wr (200 + x1)) (-1))
    else none
  else
  l_Mod_begins_49 0 G := (run_fix _ _ _ _ _).trans rfl
set_option maxRecDepth 20000 in
theorem e_l_Mod_begins_49 (x1 : Int) (G : GG) : l_Mod_begins_49 x1 G =
  if x1 < 5 then
    if 0 ≤ wr (280 + (wr (3 * x1))) ∧ wr (280 + (wr (3 * x1))) < 296 then
    if 0 ≤ wr ((wr (280 + (wr (3 * x1)))) + 1) ∧ wr ((wr (280 + (wr (3 * x1)))) + 1) < 296 then
    if 0 ≤ wr ((wr (280 + (wr (3 * x1)))) + 2) ∧ wr ((wr (280 + (wr (3 * x1)))) + 2) < 296 then
    l_Mod_begins_49 (wr (x1 + 1)) (up (up (up G 26 0 (wr (280 + (wr (3 * x1)))) (wr (8 * x1))) 26 0 (wr ((wr (280 + (wr (3 * x1)))) + 1)) x1) 26 0 (wr ((wr (280 + (wr (3 * x1)))) + 2)) x1)
    else none
    else none
    else none
  else
  rV (up (up G 25 0 5 0) 25 0 11 0) := (run_fix _ _ _ _ _).trans rfl
set_option maxRecDepth 20000 in
theorem e_f_Mod_takesLevel (x1 : Int) (G : GG) : f_Mod_takesLevel x1 G =
  l_Mod_takesLevel_2 x1 0 G := (run_fix _ _ _ _ _).trans rfl
set_option maxRecDepth 20000 in
theorem e_l_Mod_takesLevel_2 (x1 : Int) (x2 : Int) (G : GG) : l_Mod_takesLevel_2 x1 x2 G =
  if x2 < G 26 0 0 then
    if 0 ≤ wr ((wr (6 * x1)) + x2) ∧ wr ((wr (6 * x1)) + x2) < 30 then
    if 0 ≤ x2 ∧ x2 < 6 then
    l_Mod_takesLevel_31 x1 x2 0 (up G 30 0 x2 (G 34 0 (wr ((wr (6 * x1)) + x2))))
    else none
    else none
  else
  rV G := (run_fix _ _ _ _ _).trans rfl
set_option maxRecDepth 20000 in
theorem e_l_Mod_takesLevel_31 (x1 : Int) (x2 : Int) (x3 : Int) (G : GG) : l_Mod_takesLevel_31 x1 x2 x3 G =
  if 0 ≤ x2 ∧ x2 < 6 then
  if x3 < G 30 0 x2 then
    if 0 ≤ wr ((wr ((wr ((wr (6 * x1)) + x2)) * 10)) + x3) ∧ wr ((wr ((wr ((wr (6 * x1)) + x2)) * 10)) + x3) < 300 then
    if 0 ≤ wr ((wr (10 * x2)) + x3) ∧ wr ((wr (10 * x2)) + x3) < 60 then
    if 0 ≤ wr ((wr (7 + (wr (10 * x2)))) + (G 35 0 (wr ((wr ((wr ((wr (6 * x1)) + x2)) * 10)) + x3)))) ∧ wr ((wr (7 + (wr (10 * x2)))) + (G 35 0 (wr ((wr ((wr ((wr (6 * x1)) + x2)) * 10)) + x3)))) < 296 then
    if 0 ≤ wr ((wr (10 * x2)) + x3) ∧ wr ((wr (10 * x2)) + x3) < 60 then
    if 0 ≤ wr ((wr (67 + (wr (10 * x2)))) + (G 35 0 (wr ((wr ((wr ((wr (6 * x1)) + x2)) * 10)) + x3)))) ∧ wr ((wr (67 + (wr (10 * x2)))) + (G 35 0 (wr ((wr ((wr ((wr (6 * x1)) + x2)) * 10)) + x3)))) < 296 then
    if 0 ≤ wr ((wr (10 * x2)) + x3) ∧ wr ((wr (10 * x2)) + x3) < 60 then
    l_Mod_takesLevel_31 x1 x2 (wr (x3 + 1)) (up (up (up G 33 0 (wr ((wr (10 * x2)) + x3)) (G 35 0 (wr ((wr ((wr ((wr (6 * x1)) + x2)) * 10)) + x3)))) 31 0 (wr ((wr (10 * x2)) + x3)) ((up G 33 0 (wr ((wr (10 * x2)) + x3)) (G 35 0 (wr ((wr ((wr ((wr (6 * x1)) + x2)) * 10)) + x3)))) 26 0 (wr ((wr (7 + (wr (10 * x2)))) + (G 35 0 (wr ((wr ((wr ((wr (6 * x1)) + x2)) * 10)) + x3))))))) 32 0 (wr ((wr (10 * x2)) + x3)) ((up (up G 33 0 (wr ((wr (10 * x2)) + x3)) (G 35 0 (wr ((wr ((wr ((wr (6 * x1)) + x2)) * 10)) + x3)))) 31 0 (wr ((wr (10 * x2)) + x3)) ((up G 33 0 (wr ((wr (10 * x2)) + x3)) (G 35 0 (wr ((wr ((wr ((wr (6 * x1)) + x2)) * 10)) + x3)))) 26 0 (wr ((wr (7 + (wr (10 * x2)))) + (G 35 0 (wr ((wr ((wr ((wr (6 * x1)) + x2)) * 10)) + x3))))))) 26 0 (wr ((wr (67 + (wr (10 * x2)))) + (G 35 0 (wr ((wr ((wr ((wr (6 * x1)) + x2)) * 10)) + x3)))))))
    else none
    else none
    else none
    else none
    else none
    else none
  else
  l_Mod_takesLevel_2 x1 (wr (x2 + 1)) G
  else none := (run_fix _ _ _ _ _).trans rfl
set_option maxRecDepth 20000 in
theorem e_f_Mod_takesEntry (G : GG) : f_Mod_takesEntry  G =
  bI (f_Mod_here G) fun r2 G1 =>
  if r2 = 76 then
    l_Mod_takesEntry_25 r2 G1
  else
  if r2 = 80 then
    l_Mod_takesEntry_25 r2 G1
  else
  if r2 = 70 then
    l_Mod_takesEntry_25 r2 G1
  else
  rI 0 G1 := (run_fix _ _ _ _ _).trans rfl
set_option maxRecDepth 20000 in
theorem e_l_Mod_takesEntry_25 (x1 : Int) (G : GG) : l_Mod_takesEntry_25 x1 G =
  bV (f_Mod_adds x1 (up G 25 0 20 (wr ((G 25 0 20) + 1)))) fun G1 =>
  if x1 = 76 then
    bI (f_Mod_takesLine G1) fun r3 G2 =>
    l_Mod_takesEntry_179 r3 G2
  else
  if x1 = 80 then
    bI (f_Mod_takesPlace G1) fun r5 G4 =>
    if r5 = 0 then
      l_Mod_takesEntry_179 0 G4
    else
    bI (f_Mod_takes 114 G4) fun r7 G6 =>
    if r7 = 0 then
      l_Mod_takesEntry_179 0 G6
    else
    bI (f_Mod_takesDigit 0 9 G6) fun r9 G8 =>
    if r9 = 0 then
      l_Mod_takesEntry_179 0 G8
    else
    bI (f_Mod_takes 119 G8) fun r11 G10 =>
    if r11 = 0 then
      l_Mod_takesEntry_179 0 G10
    else
    bI (f_Mod_takesNumber 2 12 G10) fun r13 G12 =>
    if r13 = 0 then
      l_Mod_takesEntry_179 0 G12
    else
    bI (f_Mod_takes 104 G12) fun r15 G14 =>
    if r15 = 0 then
      l_Mod_takesEntry_179 0 G14
    else
    bI (f_Mod_takesDigit 1 4 G14) fun r17 G16 =>
    if r17 = 0 then
      l_Mod_takesEntry_179 0 G16
    else
    l_Mod_takesEntry_179 1 G16
  else
  bI (f_Mod_takesDigit 0 7 G1) fun r19 G18 =>
  if r19 = 0 then
    l_Mod_takesEntry_179 0 G18
  else
  bI (f_Mod_takesDigit 0 7 G18) fun r21 G20 =>
  if r21 = 0 then
    l_Mod_takesEntry_179 0 G20
  else
  bI (f_Mod_takes 61 G20) fun r23 G22 =>
  if r23 = 0 then
    l_Mod_takesEntry_179 0 G22
  else
  bI (f_Mod_takesNumber 0 15 G22) fun r25 G24 =>
  if r25 = 0 then
    l_Mod_takesEntry_179 0 G24
  else
  l_Mod_takesEntry_179 1 G24 := (run_fix _ _ _ _ _).trans rfl
set_option maxRecDepth 20000 in
theorem e_l_Mod_takesEntry_179 (x2 : Int) (G : GG) : l_Mod_takesEntry_179 x2 G =
  if x2 = 0 then
    rI 0 G
  else
  bI (f_Mod_takes 59 G) fun r2 G1 =>
  if r2 = 0 then
    rI 0 G1
  else
  rI 1 G1 := (run_fix _ _ _ _ _).trans rfl
set_option maxRecDepth 20000 in
theorem e_f_Mod_addsLine (x1 : Int) (G : GG) : f_Mod_addsLine x1 G =
  if 0 ≤ x1 ∧ x1 < 240 then
  bV (f_Mod_takesMap G) fun G1 =>
  if G 26 0 0 = 6 then
    bI (f_Mod_seventh x1 G1) fun r3 G2 =>
    rI r3 G2
  else
  bI (f_Mod_fits x1 (G 40 0 x1) (wr ((G 26 0 0) - 0)) G1) fun r5 G4 =>
  rI r5 G4
  else none := (run_fix _ _ _ _ _).trans rfl
set_option maxRecDepth 20000 in
theorem e_f_Mod_left (x1 : Int) (x2 : Int) (G : GG) : f_Mod_left x1 x2 G =
  bI (f_Mod_ofPoint x1 0 G) fun r2 G1 =>
  if x2 = 0 then
    rI (wr (r2 + 1)) G1
  else
  if x2 = 3 then
    rI (wr (r2 + 1)) G1
  else
  bI (f_Mod_ofPoint x1 3 G1) fun r4 G3 =>
  rI (wr (r2 - r4)) G3 := (run_fix _ _ _ _ _).trans rfl
set_option maxRecDepth 20000 in
theorem e_f_Mod_low (x1 : Int) (x2 : Int) (G : GG) : f_Mod_low x1 x2 G =
  bI (f_Mod_ofPoint x1 1 G) fun r2 G1 =>
  if x2 < 2 then
    rI (wr (r2 + 1)) G1
  else
  bI (f_Mod_ofPoint x1 4 G1) fun r4 G3 =>
  rI (wr (r2 - r4)) G3 := (run_fix _ _ _ _ _).trans rfl
set_option maxRecDepth 20000 in
theorem e_f_Mod_isAhead (x1 : Int) (x2 : Int) (G : GG) : f_Mod_isAhead x1 x2 G =
  bI (f_Mod_ofPoint x1 2 G) fun r2 G1 =>
  bI (f_Mod_ofPoint x2 2 G1) fun r4 G3 =>
  if r2 = r4 then
    if x1 < x2 then
      rI 1 G3
    else
    rI 0 G3
  else
  if r4 < r2 then
    rI 1 G3
  else
  rI 0 G3 := (run_fix _ _ _ _ _).trans rfl
set_option maxRecDepth 20000 in
theorem e_f_Mod_overlap (x1 : Int) (x2 : Int) (x3 : Int) (x4 : Int) (G : GG) : f_Mod_overlap x1 x2 x3 x4 G =
  bI (f_Mod_left x1 x2 G) fun r2 G1 =>
  bI (f_Mod_ofPoint x1 3 G1) fun r4 G3 =>
  bI (f_Mod_left x3 x4 G3) fun r6 G5 =>
  if r6 < wr (r2 + r4) then
    bI (f_Mod_left x3 x4 G5) fun r8 G7 =>
    bI (f_Mod_ofPoint x3 3 G7) fun r10 G9 =>
    bI (f_Mod_left x1 x2 G9) fun r12 G11 =>
    if r12 < wr (r8 + r10) then
      bI (f_Mod_low x1 x2 G11) fun r14 G13 =>
      bI (f_Mod_ofPoint x1 4 G13) fun r16 G15 =>
      bI (f_Mod_low x3 x4 G15) fun r18 G17 =>
      if r18 < wr (r14 + r16) then
        bI (f_Mod_low x3 x4 G17) fun r20 G19 =>
        bI (f_Mod_ofPoint x3 4 G19) fun r22 G21 =>
        bI (f_Mod_low x1 x2 G21) fun r24 G23 =>
        if r24 < wr (r20 + r22) then
          rI 1 G23
        else
        rI 0 G23
      else
      rI 0 G17
    else
    bI (f_Mod_low x1 x2 G11) fun r26 G25 =>
    bI (f_Mod_ofPoint x1 4 G25) fun r28 G27 =>
    bI (f_Mod_low x3 x4 G27) fun r30 G29 =>
    if r30 < wr (r26 + r28) then
      bI (f_Mod_low x3 x4 G29) fun r32 G31 =>
      bI (f_Mod_ofPoint x3 4 G31) fun r34 G33 =>
      bI (f_Mod_low x1 x2 G33) fun r36 G35 =>
      if r36 < wr (r32 + r34) then
        rI 0 G35
      else
      rI 0 G35
    else
    rI 0 G29
  else
  bI (f_Mod_low x1 x2 G5) fun r38 G37 =>
  bI (f_Mod_ofPoint x1 4 G37) fun r40 G39 =>
  bI (f_Mod_low x3 x4 G39) fun r42 G41 =>
  if r42 < wr (r38 + r40) then
    bI (f_Mod_low x3 x4 G41) fun r44 G43 =>
    bI (f_Mod_ofPoint x3 4 G43) fun r46 G45 =>
    bI (f_Mod_low x1 x2 G45) fun r48 G47 =>
    if r48 < wr (r44 + r46) then
      rI 0 G47
    else
    rI 0 G47
  else
  rI 0 G41 := (run_fix _ _ _ _ _).trans rfl
set_option maxRecDepth 20000 in
theorem e_f_Mod_places (x1 : Int) (G : GG) : f_Mod_places x1 G =
  l_Mod_places_2 x1 0 G := (run_fix _ _ _ _ _).trans rfl
set_option maxRecDepth 20000 in
theorem e_l_Mod_places_2 (x1 : Int) (x2 : Int) (G : GG) : l_Mod_places_2 x1 x2 G =
  if x2 < 12 then
    if 0 ≤ wr ((wr (12 * x1)) + x2) ∧ wr ((wr (12 * x1)) + x2) < 60 then
    l_Mod_places_2 x1 (wr (x2 + 1)) (up G 38 0 (wr ((wr (12 * x1)) + x2)) (-1))
    else none
  else
  bI (f_Mod_nextToPlace x1 0 G) fun r2 G1 =>
  l_Mod_places_35 x1 0 r2 G1 := (run_fix _ _ _ _ _).trans rfl
set_option maxRecDepth 20000 in
theorem e_l_Mod_places_35 (x1 : Int) (x2 : Int) (x3 : Int) (G : GG) : l_Mod_places_35 x1 x2 x3 G =
  if x3 < 0 then
    rV G
  else
  l_Mod_places_51 x1 (bOr x2 (bShl 1 x3)) x3 (-1) 0 G := (run_fix _ _ _ _ _).trans rfl
set_option maxRecDepth 20000 in
theorem e_l_Mod_places_51 (x1 : Int) (x2 : Int) (x3 : Int) (x4 : Int) (x5 : Int) (G : GG) : l_Mod_places_51 x1 x2 x3 x4 x5 G =
  if x5 < 4 then
    if x4 < 0 then
      bI (f_Mod_ofPoint x3 5 G) fun r2 G1 =>
      bI (f_Mod_refused x1 x3 (iRem (wr (r2 + x5)) 4) G1) fun r4 G3 =>
      if r4 = 0 then
        l_Mod_places_51 x1 x2 x3 (iRem (wr (r2 + x5)) 4) (wr (x5 + 1)) G3
      else
      l_Mod_places_51 x1 x2 x3 (-1) (wr (x5 + 1)) G3
    else
    if 0 ≤ wr ((wr (12 * x1)) + x3) ∧ wr ((wr (12 * x1)) + x3) < 60 then
    bI (f_Mod_nextToPlace x1 x2 (up G 38 0 (wr ((wr (12 * x1)) + x3)) x4)) fun r6 G5 =>
    l_Mod_places_35 x1 x2 r6 G5
    else none
  else
  if 0 ≤ wr ((wr (12 * x1)) + x3) ∧ wr ((wr (12 * x1)) + x3) < 60 then
  bI (f_Mod_nextToPlace x1 x2 (up G 38 0 (wr ((wr (12 * x1)) + x3)) x4)) fun r8 G7 =>
  l_Mod_places_35 x1 x2 r8 G7
  else none := (run_fix _ _ _ _ _).trans rfl
set_option maxRecDepth 20000 in
theorem e_f_Mod_keepsLines (x1 : Int) (G : GG) : f_Mod_keepsLines x1 G =
  l_Mod_keepsLines_2 x1 0 G := (run_fix _ _ _ _ _).trans rfl
set_option maxRecDepth 20000 in
theorem e_l_Mod_keepsLines_2 (x1 : Int) (x2 : Int) (G : GG) : l_Mod_keepsLines_2 x1 x2 G =
  if x2 < G 26 0 0 then
    if 0 ≤ x2 ∧ x2 < 6 then
    if 0 ≤ wr ((wr (6 * x1)) + x2) ∧ wr ((wr (6 * x1)) + x2) < 30 then
    l_Mod_keepsLines_31 x1 x2 0 (up G 34 0 (wr ((wr (6 * x1)) + x2)) (G 30 0 x2))
    else none
    else none
  else
  rV G := (run_fix _ _ _ _ _).trans rfl
set_option maxRecDepth 20000 in
theorem e_l_Mod_keepsLines_31 (x1 : Int) (x2 : Int) (x3 : Int) (G : GG) : l_Mod_keepsLines_31 x1 x2 x3 G =
  if 0 ≤ x2 ∧ x2 < 6 then
  if x3 < G 30 0 x2 then
    if 0 ≤ wr ((wr (10 * x2)) + x3) ∧ wr ((wr (10 * x2)) + x3) < 60 then
    if 0 ≤ wr ((wr ((wr ((wr (6 * x1)) + x2)) * 10)) + x3) ∧ wr ((wr ((wr ((wr (6 * x1)) + x2)) * 10)) + x3) < 300 then
    l_Mod_keepsLines_31 x1 x2 (wr (x3 + 1)) (up G 35 0 (wr ((wr ((wr ((wr (6 * x1)) + x2)) * 10)) + x3)) (G 33 0 (wr ((wr (10 * x2)) + x3))))
    else none
    else none
  else
  l_Mod_keepsLines_2 x1 (wr (x2 + 1)) G
  else none := (run_fix _ _ _ _ _).trans rfl
set_option maxRecDepth 20000 in
theorem e_f_Mod_removesOne (x1 : Int) (G : GG) : f_Mod_removesOne x1 G =
  l_Mod_removesOne_8 x1 (-1) 1000000000 0 G := (run_fix _ _ _ _ _).trans rfl
set_option maxRecDepth 20000 in
theorem e_l_Mod_removesOne_8 (x1 : Int) (x2 : Int) (x3 : Int) (x4 : Int) (G : GG) : l_Mod_removesOne_8 x1 x2 x3 x4 G =
  if x4 < G 26 0 0 then
    l_Mod_removesOne_22 x1 x2 x3 x4 1 G
  else
  if x2 < 0 then
    if x2 < 0 then
      rI 0 G
    else
    rI 1 G
  else
  bV (f_Mod_removes (iDiv x2 10) (iRem x2 10) G) fun G1 =>
  if x2 < 0 then
    rI 0 G1
  else
  rI 1 G1 := (run_fix _ _ _ _ _).trans rfl
set_option maxRecDepth 20000 in
theorem e_l_Mod_removesOne_22 (x1 : Int) (x2 : Int) (x3 : Int) (x4 : Int) (x5 : Int) (G : GG) : l_Mod_removesOne_22 x1 x2 x3 x4 x5 G =
  if 0 ≤ x4 ∧ x4 < 6 then
  if wr (x5 + 1) < G 30 0 x4 then
    bI (f_Mod_weightOf x4 x5 G) fun r2 G1 =>
    if r2 < x3 then
      bI (f_Mod_reason x4 x5 x1 G1) fun r4 G3 =>
      if r4 = 0 then
        bI (f_Mod_weightOf x4 x5 G3) fun r6 G5 =>
        l_Mod_removesOne_22 x1 (wr ((wr (10 * x4)) + x5)) r6 x4 (wr (x5 + 1)) G5
      else
      l_Mod_removesOne_22 x1 x2 x3 x4 (wr (x5 + 1)) G3
    else
    l_Mod_removesOne_22 x1 x2 x3 x4 (wr (x5 + 1)) G1
  else
  l_Mod_removesOne_8 x1 x2 x3 (wr (x4 + 1)) G
  else none := (run_fix _ _ _ _ _).trans rfl
set_option maxRecDepth 20000 in
theorem e_f_Mod_mergesOne (x1 : Int) (G : GG) : f_Mod_mergesOne x1 G =
  l_Mod_mergesOne_4 x1 (-1) 0 G := (run_fix _ _ _ _ _).trans rfl
set_option maxRecDepth 20000 in
theorem e_l_Mod_mergesOne_4 (x1 : Int) (x2 : Int) (x3 : Int) (G : GG) : l_Mod_mergesOne_4 x1 x2 x3 G =
  if x3 < 16 then
    bI (f_Mod_isSmall x1 x3 G) fun r2 G1 =>
    if r2 = 0 then
      l_Mod_mergesOne_4 x1 x2 (wr (x3 + 1)) G1
    else
    if x2 < 0 then
      bI (f_Mod_goesTo x1 x3 G1) fun r4 G3 =>
      if r4 < 0 then
        l_Mod_mergesOne_4 x1 x2 (wr (x3 + 1)) G3
      else
      l_Mod_mergesOne_4 x1 x3 (wr (x3 + 1)) G3
    else
    bI (f_Mod_areaOf x1 x3 G1) fun r6 G5 =>
    bI (f_Mod_areaOf x1 x2 G5) fun r8 G7 =>
    if r6 < r8 then
      bI (f_Mod_goesTo x1 x3 G7) fun r10 G9 =>
      if r10 < 0 then
        l_Mod_mergesOne_4 x1 x2 (wr (x3 + 1)) G9
      else
      l_Mod_mergesOne_4 x1 x3 (wr (x3 + 1)) G9
    else
    l_Mod_mergesOne_4 x1 x2 (wr (x3 + 1)) G7
  else
  if x2 < 0 then
    rI 0 G
  else
  bI (f_Mod_goesTo x1 x2 G) fun r12 G11 =>
  l_Mod_mergesOne_87 x1 x2 r12 0 G11 := (run_fix _ _ _ _ _).trans rfl
set_option maxRecDepth 20000 in
theorem e_l_Mod_mergesOne_87 (x1 : Int) (x2 : Int) (x3 : Int) (x4 : Int) (G : GG) : l_Mod_mergesOne_87 x1 x2 x3 x4 G =
  if x4 < 64 then
    if 0 ≤ wr ((wr (64 * x1)) + x4) ∧ wr ((wr (64 * x1)) + x4) < 320 then
    if G 36 0 (wr ((wr (64 * x1)) + x4)) = x2 then
      if 0 ≤ wr ((wr (64 * x1)) + x4) ∧ wr ((wr (64 * x1)) + x4) < 320 then
      l_Mod_mergesOne_87 x1 x2 x3 (wr (x4 + 1)) (up G 36 0 (wr ((wr (64 * x1)) + x4)) x3)
      else none
    else
    if 0 ≤ wr ((wr (64 * x1)) + x4) ∧ wr ((wr (64 * x1)) + x4) < 320 then
    if 0 ≤ wr ((wr (64 * x1)) + x4) ∧ wr ((wr (64 * x1)) + x4) < 320 then
    l_Mod_mergesOne_87 x1 x2 x3 (wr (x4 + 1)) (up G 36 0 (wr ((wr (64 * x1)) + x4)) (G 36 0 (wr ((wr (64 * x1)) + x4))))
    else none
    else none
    else none
  else
  l_Mod_mergesOne_141 x1 x2 x3 0 G := (run_fix _ _ _ _ _).trans rfl
set_option maxRecDepth 20000 in
theorem e_l_Mod_mergesOne_141 (x1 : Int) (x2 : Int) (x3 : Int) (x4 : Int) (G : GG) : l_Mod_mergesOne_141 x1 x2 x3 x4 G =
  if x4 < 16 then
    if 0 ≤ wr ((wr (16 * x1)) + x4) ∧ wr ((wr (16 * x1)) + x4) < 80 then
    if G 37 0 (wr ((wr (16 * x1)) + x4)) = x2 then
      if 0 ≤ wr ((wr (16 * x1)) + x4) ∧ wr ((wr (16 * x1)) + x4) < 80 then
      l_Mod_mergesOne_141 x1 x2 x3 (wr (x4 + 1)) (up G 37 0 (wr ((wr (16 * x1)) + x4)) x3)
      else none
    else
    if 0 ≤ wr ((wr (16 * x1)) + x4) ∧ wr ((wr (16 * x1)) + x4) < 80 then
    if 0 ≤ wr ((wr (16 * x1)) + x4) ∧ wr ((wr (16 * x1)) + x4) < 80 then
    l_Mod_mergesOne_141 x1 x2 x3 (wr (x4 + 1)) (up G 37 0 (wr ((wr (16 * x1)) + x4)) (G 37 0 (wr ((wr (16 * x1)) + x4))))
    else none
    else none
    else none
  else
  rI 1 G := (run_fix _ _ _ _ _).trans rfl
set_option maxRecDepth 20000 in
theorem e_f_Mod_pairs (x1 : Int) (x2 : Int) (x3 : Int) (G : GG) : f_Mod_pairs x1 x2 x3 G =
  l_Mod_pairs_6 x1 x2 x3 0 0 G := (run_fix _ _ _ _ _).trans rfl
set_option maxRecDepth 20000 in
theorem e_l_Mod_pairs_6 (x1 : Int) (x2 : Int) (x3 : Int) (x4 : Int) (x5 : Int) (G : GG) : l_Mod_pairs_6 x1 x2 x3 x4 x5 G =
  if x5 < 64 then
    if 0 ≤ wr ((wr (64 * x1)) + x5) ∧ wr ((wr (64 * x1)) + x5) < 320 then
    if iRem x5 8 < 7 then
      if 0 ≤ wr ((wr ((wr (64 * x1)) + x5)) + 1) ∧ wr ((wr ((wr (64 * x1)) + x5)) + 1) < 320 then
      l_Mod_pairs_56 x1 x2 x3 x4 x5 (G 36 0 (wr ((wr (64 * x1)) + x5))) (G 36 0 (wr ((wr ((wr (64 * x1)) + x5)) + 1))) G
      else none
    else
    l_Mod_pairs_56 x1 x2 x3 x4 x5 (G 36 0 (wr ((wr (64 * x1)) + x5))) (-2) G
    else none
  else
  rI x4 G := (run_fix _ _ _ _ _).trans rfl
set_option maxRecDepth 20000 in
theorem e_l_Mod_pairs_56 (x1 : Int) (x2 : Int) (x3 : Int) (x4 : Int) (x5 : Int) (x6 : Int) (s0 : Int) (G : GG) : l_Mod_pairs_56 x1 x2 x3 x4 x5 x6 s0 G =
  if x5 < 56 then
    if 0 ≤ wr ((wr ((wr (64 * x1)) + x5)) + 8) ∧ wr ((wr ((wr (64 * x1)) + x5)) + 8) < 320 then
    l_Mod_pairs_85 x1 x2 x3 x4 x5 x6 s0 (G 36 0 (wr ((wr ((wr (64 * x1)) + x5)) + 8))) G
    else none
  else
  l_Mod_pairs_85 x1 x2 x3 x4 x5 x6 s0 (-2) G := (run_fix _ _ _ _ _).trans rfl
set_option maxRecDepth 20000 in
theorem e_l_Mod_pairs_85 (x1 : Int) (x2 : Int) (x3 : Int) (x4 : Int) (x5 : Int) (x6 : Int) (x7 : Int) (s0 : Int) (G : GG) : l_Mod_pairs_85 x1 x2 x3 x4 x5 x6 x7 s0 G =
  if x6 = x2 then
    if x7 = x3 then
      l_Mod_pairs_118 x1 x2 x3 x5 x6 s0 1 x4 G
    else
    if x6 = x3 then
      if x7 = x2 then
        l_Mod_pairs_118 x1 x2 x3 x5 x6 s0 1 x4 G
      else
      l_Mod_pairs_118 x1 x2 x3 x5 x6 s0 0 x4 G
    else
    l_Mod_pairs_118 x1 x2 x3 x5 x6 s0 0 x4 G
  else
  if x6 = x3 then
    if x7 = x2 then
      l_Mod_pairs_118 x1 x2 x3 x5 x6 s0 1 x4 G
    else
    l_Mod_pairs_118 x1 x2 x3 x5 x6 s0 0 x4 G
  else
  l_Mod_pairs_118 x1 x2 x3 x5 x6 s0 0 x4 G := (run_fix _ _ _ _ _).trans rfl
set_option maxRecDepth 20000 in
theorem e_l_Mod_pairs_118 (x1 : Int) (x2 : Int) (x3 : Int) (x5 : Int) (x6 : Int) (x8 : Int) (s0 : Int) (s1 : Int) (G : GG) : l_Mod_pairs_118 x1 x2 x3 x5 x6 x8 s0 s1 G =
  if x6 = x2 then
    if x8 = x3 then
      l_Mod_pairs_152 x1 x2 x3 x5 1 (wr (s1 + s0)) G
    else
    if x6 = x3 then
      if x8 = x2 then
        l_Mod_pairs_152 x1 x2 x3 x5 1 (wr (s1 + s0)) G
      else
      l_Mod_pairs_152 x1 x2 x3 x5 0 (wr (s1 + s0)) G
    else
    l_Mod_pairs_152 x1 x2 x3 x5 0 (wr (s1 + s0)) G
  else
  if x6 = x3 then
    if x8 = x2 then
      l_Mod_pairs_152 x1 x2 x3 x5 1 (wr (s1 + s0)) G
    else
    l_Mod_pairs_152 x1 x2 x3 x5 0 (wr (s1 + s0)) G
  else
  l_Mod_pairs_152 x1 x2 x3 x5 0 (wr (s1 + s0)) G := (run_fix _ _ _ _ _).trans rfl
set_option maxRecDepth 20000 in
theorem e_l_Mod_pairs_152 (x1 : Int) (x2 : Int) (x3 : Int) (x5 : Int) (s0 : Int) (s1 : Int) (G : GG) : l_Mod_pairs_152 x1 x2 x3 x5 s0 s1 G =
  l_Mod_pairs_6 x1 x2 x3 (wr (s1 + s0)) (wr (x5 + 1)) G := (run_fix _ _ _ _ _).trans rfl
set_option maxRecDepth 20000 in
theorem e_f_Mod_isOnSegment (x1 : Int) (x2 : Int) (x3 : Int) (x4 : Int) (G : GG) : f_Mod_isOnSegment x1 x2 x3 x4 G =
  if 0 ≤ x3 ∧ x3 < 60 then
  if 0 ≤ x3 ∧ x3 < 60 then
  if 0 ≤ x4 ∧ x4 < 60 then
  if 0 ≤ x4 ∧ x4 < 60 then
  bI (f_Mod_isOn x1 x2 (G 31 0 x3) (G 32 0 x3) (G 31 0 x4) (G 32 0 x4) G) fun r2 G1 =>
  if 0 ≤ r2 ∧ r2 ≤ 1 then
  rI r2 G1
  else none
  else none
  else none
  else none
  else none := (run_fix _ _ _ _ _).trans rfl
set_option maxRecDepth 20000 in
theorem e_f_Mod_setting (x1 : Int) (x2 : Int) (x3 : Int) (G : GG) : f_Mod_setting x1 x2 x3 G =
  if x3 = 0 then
    rI 0 G
  else
  if 0 ≤ wr ((wr (280 + (wr (3 * x1)))) + x2) ∧ wr ((wr (280 + (wr (3 * x1)))) + x2) < 296 then
  rI (G 26 0 (wr ((wr (280 + (wr (3 * x1)))) + x2))) G
  else none := (run_fix _ _ _ _ _).trans rfl
set_option maxRecDepth 20000 in
theorem e_f_Mod_hasPoint (x1 : Int) (G : GG) : f_Mod_hasPoint x1 G =
  l_Mod_hasPoint_11 x1 (wr (x1 - 1)) (wr (x1 + 1)) 0 G := (run_fix _ _ _ _ _).trans rfl
set_option maxRecDepth 20000 in
theorem e_l_Mod_hasPoint_11 (x1 : Int) (x2 : Int) (x3 : Int) (x4 : Int) (G : GG) : l_Mod_hasPoint_11 x1 x2 x3 x4 G =
  if x4 < G 26 0 127 then
    bI (f_Mod_ofPoint x4 0 G) fun r2 G1 =>
    bI (f_Mod_ofPoint x4 1 G1) fun r4 G3 =>
    if 0 ≤ x2 ∧ x2 < 60 then
    if 0 ≤ x2 ∧ x2 < 60 then
    if 0 ≤ x1 ∧ x1 < 60 then
    if 0 ≤ x1 ∧ x1 < 60 then
    bI (f_Mod_turn (G3 31 0 x2) (G3 32 0 x2) (G3 31 0 x1) (G3 32 0 x1) r2 r4 G3) fun r6 G5 =>
    if 0 ≤ x1 ∧ x1 < 60 then
    if 0 ≤ x1 ∧ x1 < 60 then
    if 0 ≤ x3 ∧ x3 < 60 then
    if 0 ≤ x3 ∧ x3 < 60 then
    bI (f_Mod_turn (G5 31 0 x1) (G5 32 0 x1) (G5 31 0 x3) (G5 32 0 x3) r2 r4 G5) fun r8 G7 =>
    if 0 ≤ x3 ∧ x3 < 60 then
    if 0 ≤ x3 ∧ x3 < 60 then
    if 0 ≤ x2 ∧ x2 < 60 then
    if 0 ≤ x2 ∧ x2 < 60 then
    bI (f_Mod_turn (G7 31 0 x3) (G7 32 0 x3) (G7 31 0 x2) (G7 32 0 x2) r2 r4 G7) fun r10 G9 =>
    if r6 < 0 then
      if 0 < r6 then
        l_Mod_hasPoint_175 x1 x2 x3 x4 r2 r4 0 G9
      else
      if 0 < r8 then
        l_Mod_hasPoint_175 x1 x2 x3 x4 r2 r4 0 G9
      else
      if 0 < r10 then
        l_Mod_hasPoint_175 x1 x2 x3 x4 r2 r4 0 G9
      else
      l_Mod_hasPoint_175 x1 x2 x3 x4 r2 r4 1 G9
    else
    if r8 < 0 then
      if 0 < r6 then
        l_Mod_hasPoint_175 x1 x2 x3 x4 r2 r4 0 G9
      else
      if 0 < r8 then
        l_Mod_hasPoint_175 x1 x2 x3 x4 r2 r4 0 G9
      else
      if 0 < r10 then
        l_Mod_hasPoint_175 x1 x2 x3 x4 r2 r4 0 G9
      else
      l_Mod_hasPoint_175 x1 x2 x3 x4 r2 r4 1 G9
    else
    if r10 < 0 then
      if 0 < r6 then
        l_Mod_hasPoint_175 x1 x2 x3 x4 r2 r4 0 G9
      else
      if 0 < r8 then
        l_Mod_hasPoint_175 x1 x2 x3 x4 r2 r4 0 G9
      else
      if 0 < r10 then
        l_Mod_hasPoint_175 x1 x2 x3 x4 r2 r4 0 G9
      else
      l_Mod_hasPoint_175 x1 x2 x3 x4 r2 r4 1 G9
    else
    l_Mod_hasPoint_175 x1 x2 x3 x4 r2 r4 1 G9
    else none
    else none
    else none
    else none
    else none
    else none
    else none
    else none
    else none
    else none
    else none
    else none
  else
  rI 0 G := (run_fix _ _ _ _ _).trans rfl
set_option maxRecDepth 20000 in
theorem e_l_Mod_hasPoint_175 (x1 : Int) (x2 : Int) (x3 : Int) (x4 : Int) (x5 : Int) (x6 : Int) (s0 : Int) (G : GG) : l_Mod_hasPoint_175 x1 x2 x3 x4 x5 x6 s0 G =
  if 0 ≤ x2 ∧ x2 < 60 then
  if 0 ≤ x2 ∧ x2 < 60 then
  if 0 ≤ x1 ∧ x1 < 60 then
  if 0 ≤ x1 ∧ x1 < 60 then
  if 0 ≤ x3 ∧ x3 < 60 then
  if 0 ≤ x3 ∧ x3 < 60 then
  bI (f_Mod_turn (G 31 0 x2) (G 32 0 x2) (G 31 0 x1) (G 32 0 x1) (G 31 0 x3) (G 32 0 x3) G) fun r2 G1 =>
  if r2 = 0 then
    l_Mod_hasPoint_224 x1 x2 x3 x4 x5 x6 s0 1 G1
  else
  l_Mod_hasPoint_224 x1 x2 x3 x4 x5 x6 s0 0 G1
  else none
  else none
  else none
  else none
  else none
  else none := (run_fix _ _ _ _ _).trans rfl
set_option maxRecDepth 20000 in
theorem e_l_Mod_hasPoint_224 (x1 : Int) (x2 : Int) (x3 : Int) (x4 : Int) (x5 : Int) (x6 : Int) (x10 : Int) (s0 : Int) (G : GG) : l_Mod_hasPoint_224 x1 x2 x3 x4 x5 x6 x10 s0 G =
  if s0 = 0 then
    if x10 = 0 then
      l_Mod_hasPoint_280 x1 x2 x3 x4 G
    else
    rI 1 G
  else
  bI (f_Mod_isOnSegment x5 x6 x2 x1 G) fun r2 G1 =>
  if r2 = 0 then
    bI (f_Mod_isOnSegment x5 x6 x1 x3 G1) fun r4 G3 =>
    if r4 = 0 then
      bI (f_Mod_isOnSegment x5 x6 x2 x3 G3) fun r6 G5 =>
      if r6 = 0 then
        l_Mod_hasPoint_280 x1 x2 x3 x4 G5
      else
      rI 1 G5
    else
    rI 1 G3
  else
  rI 1 G1 := (run_fix _ _ _ _ _).trans rfl
set_option maxRecDepth 20000 in
theorem e_l_Mod_hasPoint_280 (x1 : Int) (x2 : Int) (x3 : Int) (x4 : Int) (G : GG) : l_Mod_hasPoint_280 x1 x2 x3 x4 G =
  l_Mod_hasPoint_11 x1 x2 x3 (wr (x4 + 1)) G := (run_fix _ _ _ _ _).trans rfl
set_option maxRecDepth 20000 in
theorem e_f_Mod_wouldMeet (x1 : Int) (x2 : Int) (G : GG) : f_Mod_wouldMeet x1 x2 G =
  if 1 < x2 then
    bI (f_Mod_goBack (wr ((wr ((wr ((wr (10 * x1)) + x2)) - 1)) - 1)) (wr ((wr ((wr (10 * x1)) + x2)) - 1)) (wr ((wr ((wr (10 * x1)) + x2)) + 1)) G) fun r2 G1 =>
    if r2 = 0 then
      if 0 ≤ x1 ∧ x1 < 6 then
      if wr (x2 + 2) < G1 30 0 x1 then
        bI (f_Mod_goBack (wr ((wr ((wr (10 * x1)) + x2)) - 1)) (wr ((wr ((wr (10 * x1)) + x2)) + 1)) (wr ((wr ((wr ((wr (10 * x1)) + x2)) + 1)) + 1)) G1) fun r4 G3 =>
        if r4 = 0 then
          l_Mod_wouldMeet_71 x1 x2 (wr ((wr ((wr (10 * x1)) + x2)) - 1)) (wr ((wr ((wr (10 * x1)) + x2)) + 1)) 0 G3
        else
        rI 1 G3
      else
      l_Mod_wouldMeet_71 x1 x2 (wr ((wr ((wr (10 * x1)) + x2)) - 1)) (wr ((wr ((wr (10 * x1)) + x2)) + 1)) 0 G1
      else none
    else
    rI 1 G1
  else
  if 0 ≤ x1 ∧ x1 < 6 then
  if wr (x2 + 2) < G 30 0 x1 then
    bI (f_Mod_goBack (wr ((wr ((wr (10 * x1)) + x2)) - 1)) (wr ((wr ((wr (10 * x1)) + x2)) + 1)) (wr ((wr ((wr ((wr (10 * x1)) + x2)) + 1)) + 1)) G) fun r6 G5 =>
    if r6 = 0 then
      l_Mod_wouldMeet_71 x1 x2 (wr ((wr ((wr (10 * x1)) + x2)) - 1)) (wr ((wr ((wr (10 * x1)) + x2)) + 1)) 0 G5
    else
    rI 1 G5
  else
  l_Mod_wouldMeet_71 x1 x2 (wr ((wr ((wr (10 * x1)) + x2)) - 1)) (wr ((wr ((wr (10 * x1)) + x2)) + 1)) 0 G
  else none := (run_fix _ _ _ _ _).trans rfl
set_option maxRecDepth 20000 in
theorem e_l_Mod_wouldMeet_71 (x1 : Int) (x2 : Int) (x4 : Int) (x5 : Int) (x6 : Int) (G : GG) : l_Mod_wouldMeet_71 x1 x2 x4 x5 x6 G =
  if x6 < G 26 0 0 then
    l_Mod_wouldMeet_85 x1 x2 x4 x5 x6 0 G
  else
  rI 0 G := (run_fix _ _ _ _ _).trans rfl
set_option maxRecDepth 20000 in
theorem e_l_Mod_wouldMeet_85 (x1 : Int) (x2 : Int) (x4 : Int) (x5 : Int) (x6 : Int) (x7 : Int) (G : GG) : l_Mod_wouldMeet_85 x1 x2 x4 x5 x6 x7 G =
  if 0 ≤ x6 ∧ x6 < 6 then
  if wr (x7 + 1) < G 30 0 x6 then
    if x6 = x1 then
      bI (f_Mod_isIn x7 (wr (x2 - 2)) (wr (x2 + 1)) G) fun r2 G1 =>
      if r2 = 0 then
        bI (f_Mod_meet x4 x5 (wr ((wr (10 * x6)) + x7)) (wr ((wr ((wr (10 * x6)) + x7)) + 1)) G1) fun r4 G3 =>
        if r4 = 0 then
          l_Mod_wouldMeet_85 x1 x2 x4 x5 x6 (wr (x7 + 1)) G3
        else
        rI 1 G3
      else
      l_Mod_wouldMeet_85 x1 x2 x4 x5 x6 (wr (x7 + 1)) G1
    else
    bI (f_Mod_meet x4 x5 (wr ((wr (10 * x6)) + x7)) (wr ((wr ((wr (10 * x6)) + x7)) + 1)) G) fun r6 G5 =>
    if r6 = 0 then
      l_Mod_wouldMeet_85 x1 x2 x4 x5 x6 (wr (x7 + 1)) G5
    else
    rI 1 G5
  else
  l_Mod_wouldMeet_71 x1 x2 x4 x5 (wr (x6 + 1)) G
  else none := (run_fix _ _ _ _ _).trans rfl
set_option maxRecDepth 20000 in
theorem e_f_Mod_pointAt (x1 : Int) (x2 : Int) (G : GG) : f_Mod_pointAt x1 x2 G =
  l_Mod_pointAt_2 x1 x2 0 G := (run_fix _ _ _ _ _).trans rfl
set_option maxRecDepth 20000 in
theorem e_l_Mod_pointAt_2 (x1 : Int) (x2 : Int) (x3 : Int) (G : GG) : l_Mod_pointAt_2 x1 x2 x3 G =
  if x3 < G 26 0 127 then
    bI (f_Mod_ofPoint x3 0 G) fun r2 G1 =>
    if r2 = x1 then
      bI (f_Mod_ofPoint x3 1 G1) fun r4 G3 =>
      if r4 = x2 then
        rI x3 G3
      else
      l_Mod_pointAt_2 x1 x2 (wr (x3 + 1)) G3
    else
    l_Mod_pointAt_2 x1 x2 (wr (x3 + 1)) G1
  else
  rI (-1) G := (run_fix _ _ _ _ _).trans rfl
set_option maxRecDepth 20000 in
theorem e_f_Mod_isOnMap (x1 : Int) (x2 : Int) (G : GG) : f_Mod_isOnMap x1 x2 G =
  bV (f_Mod_takesMap G) fun G1 =>
  bI (f_Mod_lineWith x1 x2 G1) fun r3 G2 =>
  if r3 < 0 then
    rI 0 G2
  else
  rI 1 G2 := (run_fix _ _ _ _ _).trans rfl
set_option maxRecDepth 20000 in
theorem e_f_Mod_here (G : GG) : f_Mod_here  G =
  if G 25 0 20 < G 25 0 19 then
    if 0 ≤ G 25 0 20 ∧ G 25 0 20 < 60 then
    rI (G 39 0 (G 25 0 20)) G
    else none
  else
  rI (-1) G := (run_fix _ _ _ _ _).trans rfl
set_option maxRecDepth 20000 in
theorem e_f_Mod_adds (x1 : Int) (G : GG) : f_Mod_adds x1 G =
  if 0 ≤ G 25 0 21 ∧ G 25 0 21 < 240 then
  rV (up (up G 40 0 (G 25 0 21) x1) 25 0 21 (wr (((up G 40 0 (G 25 0 21) x1) 25 0 21) + 1)))
  else none := (run_fix _ _ _ _ _).trans rfl
set_option maxRecDepth 20000 in
theorem e_f_Mod_takesLine (G : GG) : f_Mod_takesLine  G =
  bV (f_Mod_adds 0 G) fun G1 =>
  l_Mod_takesLine_12 (G 25 0 21) 0 G1 := (run_fix _ _ _ _ _).trans rfl
set_option maxRecDepth 20000 in
theorem e_l_Mod_takesLine_12 (x1 : Int) (x2 : Int) (G : GG) : l_Mod_takesLine_12 x1 x2 G =
  if x2 = 10 then
    if x2 = 10 then
      rI 0 (up G 25 0 20 (wr ((G 25 0 20) - 1)))
    else
    rI 0 (up G 25 0 20 (wr ((G 25 0 20) - 0)))
  else
  bI (f_Mod_takesPlace G) fun r2 G1 =>
  if r2 = 0 then
    if x2 = 10 then
      rI 0 (up G1 25 0 20 (wr ((G1 25 0 20) - 1)))
    else
    rI 0 (up G1 25 0 20 (wr ((G1 25 0 20) - 0)))
  else
  bI (f_Mod_takes 45 G1) fun r4 G3 =>
  if r4 = 0 then
    if 0 ≤ x1 ∧ x1 < 240 then
    if 1 < wr (x2 + 1) then
      rI 1 (up G3 40 0 x1 (wr (x2 + 1)))
    else
    rI 0 (up G3 40 0 x1 (wr (x2 + 1)))
    else none
  else
  l_Mod_takesLine_12 x1 (wr (x2 + 1)) G3 := (run_fix _ _ _ _ _).trans rfl
set_option maxRecDepth 20000 in
theorem e_f_Mod_takesPlace (G : GG) : f_Mod_takesPlace  G =
  bI (f_Mod_takesNumber 0 63 G) fun r2 G1 =>
  if r2 = 0 then
    rI 0 G1
  else
  bI (f_Mod_takes 44 G1) fun r4 G3 =>
  if r4 = 0 then
    rI 0 G3
  else
  bI (f_Mod_takesNumber 0 63 G3) fun r6 G5 =>
  if r6 = 0 then
    rI 0 G5
  else
  rI 1 G5 := (run_fix _ _ _ _ _).trans rfl
set_option maxRecDepth 20000 in
theorem e_f_Mod_takes (x1 : Int) (G : GG) : f_Mod_takes x1 G =
  bI (f_Mod_here G) fun r2 G1 =>
  if r2 = x1 then
    rI 1 (up G1 25 0 20 (wr ((G1 25 0 20) + 1)))
  else
  rI 0 G1 := (run_fix _ _ _ _ _).trans rfl
set_option maxRecDepth 20000 in
theorem e_f_Mod_takesDigit (x1 : Int) (x2 : Int) (G : GG) : f_Mod_takesDigit x1 x2 G =
  bI (f_Mod_here G) fun r2 G1 =>
  bI (f_Mod_isIn r2 (wr (48 + x1)) (wr (48 + x2)) G1) fun r4 G3 =>
  if r4 = 0 then
    rI 0 G3
  else
  bI (f_Mod_here G3) fun r6 G5 =>
  bV (f_Mod_adds (wr (r6 - 48)) G5) fun G7 =>
  rI 1 (up G7 25 0 20 (wr ((G7 25 0 20) + 1))) := (run_fix _ _ _ _ _).trans rfl
set_option maxRecDepth 20000 in
theorem e_f_Mod_takesNumber (x1 : Int) (x2 : Int) (G : GG) : f_Mod_takesNumber x1 x2 G =
  bI (f_Mod_here G) fun r2 G1 =>
  bI (f_Mod_isIn (wr (r2 - 48)) x1 (mMin 9 x2) G1) fun r4 G3 =>
  bI (f_Mod_isIn (wr (r2 - 48)) 1 (iDiv x2 10) G3) fun r6 G5 =>
  if r4 = 0 then
    if r6 = 0 then
      rI 0 G5
    else
    bI (f_Mod_here (up G5 25 0 20 (wr ((G5 25 0 20) + 1)))) fun r8 G7 =>
    if r6 = 0 then
      bV (f_Mod_adds (wr (r2 - 48)) G7) fun G9 =>
      if 0 ≤ r4 ∧ r4 ≤ 1 then
      rI r4 G9
      else none
    else
    bI (f_Mod_here G7) fun r11 G10 =>
    bI (f_Mod_isIn r11 48 57 G10) fun r13 G12 =>
    if r13 = 0 then
      bV (f_Mod_adds (wr (r2 - 48)) G12) fun G14 =>
      if 0 ≤ r4 ∧ r4 ≤ 1 then
      rI r4 G14
      else none
    else
    bI (f_Mod_isIn (wr ((wr ((wr (10 * (wr (r2 - 48)))) + r8)) - 48)) x1 x2 G12) fun r16 G15 =>
    if r16 = 0 then
      bV (f_Mod_adds (wr (r2 - 48)) G15) fun G17 =>
      if 0 ≤ r4 ∧ r4 ≤ 1 then
      rI r4 G17
      else none
    else
    bV (f_Mod_adds (wr ((wr ((wr (10 * (wr (r2 - 48)))) + r8)) - 48)) (up G15 25 0 20 (wr ((G15 25 0 20) + 1)))) fun G18 =>
    rI 1 G18
  else
  bI (f_Mod_here (up G5 25 0 20 (wr ((G5 25 0 20) + 1)))) fun r20 G19 =>
  if r6 = 0 then
    bV (f_Mod_adds (wr (r2 - 48)) G19) fun G21 =>
    if 0 ≤ r4 ∧ r4 ≤ 1 then
    rI r4 G21
    else none
  else
  bI (f_Mod_here G19) fun r23 G22 =>
  bI (f_Mod_isIn r23 48 57 G22) fun r25 G24 =>
  if r25 = 0 then
    bV (f_Mod_adds (wr (r2 - 48)) G24) fun G26 =>
    if 0 ≤ r4 ∧ r4 ≤ 1 then
    rI r4 G26
    else none
  else
  bI (f_Mod_isIn (wr ((wr ((wr (10 * (wr (r2 - 48)))) + r20)) - 48)) x1 x2 G24) fun r28 G27 =>
  if r28 = 0 then
    bV (f_Mod_adds (wr (r2 - 48)) G27) fun G29 =>
    if 0 ≤ r4 ∧ r4 ≤ 1 then
    rI r4 G29
    else none
  else
  bV (f_Mod_adds (wr ((wr ((wr (10 * (wr (r2 - 48)))) + r20)) - 48)) (up G27 25 0 20 (wr ((G27 25 0 20) + 1)))) fun G30 =>
  rI 1 G30 := (run_fix _ _ _ _ _).trans rfl
set_option maxRecDepth 20000 in
theorem e_f_Mod_takesMap (G : GG) : f_Mod_takesMap  G =
  l_Mod_takesMap_2 0 G := (run_fix _ _ _ _ _).trans rfl
set_option maxRecDepth 20000 in
theorem e_l_Mod_takesMap_2 (x1 : Int) (G : GG) : l_Mod_takesMap_2 x1 G =
  if x1 < G 26 0 0 then
    if 0 ≤ wr (1 + x1) ∧ wr (1 + x1) < 296 then
    if 0 ≤ x1 ∧ x1 < 6 then
    l_Mod_takesMap_28 x1 0 (up G 30 0 x1 (G 26 0 (wr (1 + x1))))
    else none
    else none
  else
  rV G := (run_fix _ _ _ _ _).trans rfl
set_option maxRecDepth 20000 in
theorem e_l_Mod_takesMap_28 (x1 : Int) (x2 : Int) (G : GG) : l_Mod_takesMap_28 x1 x2 G =
  if x2 < 10 then
    if 0 ≤ wr ((wr (7 + (wr (10 * x1)))) + x2) ∧ wr ((wr (7 + (wr (10 * x1)))) + x2) < 296 then
    if 0 ≤ wr ((wr (10 * x1)) + x2) ∧ wr ((wr (10 * x1)) + x2) < 60 then
    if 0 ≤ wr ((wr (67 + (wr (10 * x1)))) + x2) ∧ wr ((wr (67 + (wr (10 * x1)))) + x2) < 296 then
    if 0 ≤ wr ((wr (10 * x1)) + x2) ∧ wr ((wr (10 * x1)) + x2) < 60 then
    l_Mod_takesMap_28 x1 (wr (x2 + 1)) (up (up G 31 0 (wr ((wr (10 * x1)) + x2)) (G 26 0 (wr ((wr (7 + (wr (10 * x1)))) + x2)))) 32 0 (wr ((wr (10 * x1)) + x2)) ((up G 31 0 (wr ((wr (10 * x1)) + x2)) (G 26 0 (wr ((wr (7 + (wr (10 * x1)))) + x2)))) 26 0 (wr ((wr (67 + (wr (10 * x1)))) + x2))))
    else none
    else none
    else none
    else none
  else
  l_Mod_takesMap_2 (wr (x1 + 1)) G := (run_fix _ _ _ _ _).trans rfl
set_option maxRecDepth 20000 in
theorem e_f_Mod_seventh (x1 : Int) (G : GG) : f_Mod_seventh x1 G =
  l_Mod_seventh_4 x1 3 0 G := (run_fix _ _ _ _ _).trans rfl
set_option maxRecDepth 20000 in
theorem e_l_Mod_seventh_4 (x1 : Int) (x2 : Int) (x3 : Int) (G : GG) : l_Mod_seventh_4 x1 x2 x3 G =
  if x3 < 6 then
    if x2 = 3 then
      bV (f_Mod_takesMap G) fun G1 =>
      if 0 ≤ x1 ∧ x1 < 240 then
      if 0 ≤ x3 ∧ x3 < 6 then
      l_Mod_seventh_38 x1 x3 (G1 40 0 x1) 0 (up G1 30 0 x3 (G1 40 0 x1))
      else none
      else none
    else
    rI x2 G
  else
  rI x2 G := (run_fix _ _ _ _ _).trans rfl
set_option maxRecDepth 20000 in
theorem e_l_Mod_seventh_38 (x1 : Int) (x3 : Int) (x4 : Int) (x5 : Int) (G : GG) : l_Mod_seventh_38 x1 x3 x4 x5 G =
  if x5 < x4 then
    if 0 ≤ wr ((wr (x1 + 1)) + (wr (2 * x5))) ∧ wr ((wr (x1 + 1)) + (wr (2 * x5))) < 240 then
    if 0 ≤ wr ((wr (10 * x3)) + x5) ∧ wr ((wr (10 * x3)) + x5) < 60 then
    if 0 ≤ wr ((wr (x1 + 2)) + (wr (2 * x5))) ∧ wr ((wr (x1 + 2)) + (wr (2 * x5))) < 240 then
    if 0 ≤ wr ((wr (10 * x3)) + x5) ∧ wr ((wr (10 * x3)) + x5) < 60 then
    l_Mod_seventh_38 x1 x3 x4 (wr (x5 + 1)) (up (up G 31 0 (wr ((wr (10 * x3)) + x5)) (G 40 0 (wr ((wr (x1 + 1)) + (wr (2 * x5)))))) 32 0 (wr ((wr (10 * x3)) + x5)) ((up G 31 0 (wr ((wr (10 * x3)) + x5)) (G 40 0 (wr ((wr (x1 + 1)) + (wr (2 * x5)))))) 40 0 (wr ((wr (x1 + 2)) + (wr (2 * x5))))))
    else none
    else none
    else none
    else none
  else
  bI (f_Mod_areSame x3 G) fun r2 G1 =>
  if r2 = 0 then
    bI (f_Mod_isSimple x3 G1) fun r4 G3 =>
    if r4 = 0 then
      l_Mod_seventh_4 x1 2 (wr (x3 + 1)) G3
    else
    bI (f_Mod_meetOther x3 6 G3) fun r6 G5 =>
    if r6 = 0 then
      bI (f_Mod_hasPointOn x3 G5) fun r8 G7 =>
      if r8 = 0 then
        l_Mod_seventh_4 x1 3 (wr (x3 + 1)) G7
      else
      l_Mod_seventh_4 x1 2 (wr (x3 + 1)) G7
    else
    l_Mod_seventh_4 x1 2 (wr (x3 + 1)) G5
  else
  l_Mod_seventh_4 x1 2 (wr (x3 + 1)) G1 := (run_fix _ _ _ _ _).trans rfl
set_option maxRecDepth 20000 in
theorem e_f_Mod_fits (x1 : Int) (x2 : Int) (x3 : Int) (G : GG) : f_Mod_fits x1 x2 x3 G =
  if 0 ≤ x3 ∧ x3 < 6 then
  l_Mod_fits_10 x1 x2 x3 0 (up G 30 0 x3 x2)
  else none := (run_fix _ _ _ _ _).trans rfl
set_option maxRecDepth 20000 in
theorem e_l_Mod_fits_10 (x1 : Int) (x2 : Int) (x3 : Int) (x4 : Int) (G : GG) : l_Mod_fits_10 x1 x2 x3 x4 G =
  if x4 < x2 then
    if 0 ≤ wr ((wr (x1 + 1)) + (wr (2 * x4))) ∧ wr ((wr (x1 + 1)) + (wr (2 * x4))) < 240 then
    if 0 ≤ wr ((wr (10 * x3)) + x4) ∧ wr ((wr (10 * x3)) + x4) < 60 then
    if 0 ≤ wr ((wr (x1 + 2)) + (wr (2 * x4))) ∧ wr ((wr (x1 + 2)) + (wr (2 * x4))) < 240 then
    if 0 ≤ wr ((wr (10 * x3)) + x4) ∧ wr ((wr (10 * x3)) + x4) < 60 then
    l_Mod_fits_10 x1 x2 x3 (wr (x4 + 1)) (up (up G 31 0 (wr ((wr (10 * x3)) + x4)) (G 40 0 (wr ((wr (x1 + 1)) + (wr (2 * x4)))))) 32 0 (wr ((wr (10 * x3)) + x4)) ((up G 31 0 (wr ((wr (10 * x3)) + x4)) (G 40 0 (wr ((wr (x1 + 1)) + (wr (2 * x4)))))) 40 0 (wr ((wr (x1 + 2)) + (wr (2 * x4))))))
    else none
    else none
    else none
    else none
  else
  bI (f_Mod_areSame x3 G) fun r2 G1 =>
  if r2 = 0 then
    bI (f_Mod_isSimple x3 G1) fun r4 G3 =>
    if r4 = 0 then
      rI 2 G3
    else
    bI (f_Mod_meetOther x3 x3 G3) fun r6 G5 =>
    if r6 = 0 then
      bI (f_Mod_hasPointOn x3 G5) fun r8 G7 =>
      if r8 = 0 then
        if 0 ≤ wr (1 + x3) ∧ wr (1 + x3) < 296 then
        l_Mod_fits_119 x2 x3 0 (up G7 26 0 (wr (1 + x3)) x2)
        else none
      else
      rI 2 G7
    else
    rI 2 G5
  else
  rI 2 G1 := (run_fix _ _ _ _ _).trans rfl
set_option maxRecDepth 20000 in
theorem e_l_Mod_fits_119 (x2 : Int) (x3 : Int) (x4 : Int) (G : GG) : l_Mod_fits_119 x2 x3 x4 G =
  if x4 < x2 then
    if 0 ≤ wr ((wr (10 * x3)) + x4) ∧ wr ((wr (10 * x3)) + x4) < 60 then
    if 0 ≤ wr ((wr (7 + (wr (10 * x3)))) + x4) ∧ wr ((wr (7 + (wr (10 * x3)))) + x4) < 296 then
    if 0 ≤ wr ((wr (10 * x3)) + x4) ∧ wr ((wr (10 * x3)) + x4) < 60 then
    if 0 ≤ wr ((wr (67 + (wr (10 * x3)))) + x4) ∧ wr ((wr (67 + (wr (10 * x3)))) + x4) < 296 then
    l_Mod_fits_119 x2 x3 (wr (x4 + 1)) (up (up G 26 0 (wr ((wr (7 + (wr (10 * x3)))) + x4)) (G 31 0 (wr ((wr (10 * x3)) + x4)))) 26 0 (wr ((wr (67 + (wr (10 * x3)))) + x4)) ((up G 26 0 (wr ((wr (7 + (wr (10 * x3)))) + x4)) (G 31 0 (wr ((wr (10 * x3)) + x4)))) 32 0 (wr ((wr (10 * x3)) + x4))))
    else none
    else none
    else none
    else none
  else
  rI 0 (up G 26 0 0 (wr ((G 26 0 0) + 1))) := (run_fix _ _ _ _ _).trans rfl
set_option maxRecDepth 20000 in
theorem e_f_Mod_nextToPlace (x1 : Int) (x2 : Int) (G : GG) : f_Mod_nextToPlace x1 x2 G =
  l_Mod_nextToPlace_5 x1 x2 (-1) 0 G := (run_fix _ _ _ _ _).trans rfl
set_option maxRecDepth 20000 in
theorem e_l_Mod_nextToPlace_5 (x1 : Int) (x2 : Int) (x3 : Int) (x4 : Int) (G : GG) : l_Mod_nextToPlace_5 x1 x2 x3 x4 G =
  if x4 < G 26 0 127 then
    bI (f_Mod_isShown x1 x4 G) fun r2 G1 =>
    if r2 = 0 then
      l_Mod_nextToPlace_5 x1 x2 x3 (wr (x4 + 1)) G1
    else
    if bAnd (bShr x2 x4) 1 = 0 then
      if x3 < 0 then
        l_Mod_nextToPlace_5 x1 x2 x4 (wr (x4 + 1)) G1
      else
      bI (f_Mod_isAhead x4 x3 G1) fun r4 G3 =>
      if r4 = 0 then
        l_Mod_nextToPlace_5 x1 x2 x3 (wr (x4 + 1)) G3
      else
      l_Mod_nextToPlace_5 x1 x2 x4 (wr (x4 + 1)) G3
    else
    l_Mod_nextToPlace_5 x1 x2 x3 (wr (x4 + 1)) G1
  else
  rI x3 G := (run_fix _ _ _ _ _).trans rfl
set_option maxRecDepth 20000 in
theorem e_f_Mod_removes (x1 : Int) (x2 : Int) (G : GG) : f_Mod_removes x1 x2 G =
  if 0 ≤ x1 ∧ x1 < 6 then
  if 0 ≤ x1 ∧ x1 < 6 then
  l_Mod_removes_17 x1 (wr ((wr (10 * x1)) + x2)) (up G 30 0 x1 (wr ((G 30 0 x1) - 1)))
  else none
  else none := (run_fix _ _ _ _ _).trans rfl
set_option maxRecDepth 20000 in
theorem e_l_Mod_removes_17 (x1 : Int) (x3 : Int) (G : GG) : l_Mod_removes_17 x1 x3 G =
  if 0 ≤ x1 ∧ x1 < 6 then
  if x3 < wr ((wr (10 * x1)) + (G 30 0 x1)) then
    if 0 ≤ wr (x3 + 1) ∧ wr (x3 + 1) < 60 then
    if 0 ≤ x3 ∧ x3 < 60 then
    if 0 ≤ wr (x3 + 1) ∧ wr (x3 + 1) < 60 then
    if 0 ≤ x3 ∧ x3 < 60 then
    if 0 ≤ wr (x3 + 1) ∧ wr (x3 + 1) < 60 then
    if 0 ≤ x3 ∧ x3 < 60 then
    l_Mod_removes_17 x1 (wr (x3 + 1)) (up (up (up G 31 0 x3 (G 31 0 (wr (x3 + 1)))) 32 0 x3 ((up G 31 0 x3 (G 31 0 (wr (x3 + 1)))) 32 0 (wr (x3 + 1)))) 33 0 x3 ((up (up G 31 0 x3 (G 31 0 (wr (x3 + 1)))) 32 0 x3 ((up G 31 0 x3 (G 31 0 (wr (x3 + 1)))) 32 0 (wr (x3 + 1)))) 33 0 (wr (x3 + 1))))
    else none
    else none
    else none
    else none
    else none
    else none
  else
  rV G
  else none := (run_fix _ _ _ _ _).trans rfl
set_option maxRecDepth 20000 in
theorem e_f_Mod_goesTo (x1 : Int) (x2 : Int) (G : GG) : f_Mod_goesTo x1 x2 G =
  l_Mod_goesTo_5 x1 x2 (-1) 0 G := (run_fix _ _ _ _ _).trans rfl
set_option maxRecDepth 20000 in
theorem e_l_Mod_goesTo_5 (x1 : Int) (x2 : Int) (x3 : Int) (x4 : Int) (G : GG) : l_Mod_goesTo_5 x1 x2 x3 x4 G =
  if x4 < 2 then
    if x3 < 0 then
      l_Mod_goesTo_21 x1 x2 x3 x4 0 0 G
    else
    rI x3 G
  else
  rI x3 G := (run_fix _ _ _ _ _).trans rfl
set_option maxRecDepth 20000 in
theorem e_l_Mod_goesTo_21 (x1 : Int) (x2 : Int) (x3 : Int) (x4 : Int) (x5 : Int) (x6 : Int) (G : GG) : l_Mod_goesTo_21 x1 x2 x3 x4 x5 x6 G =
  if x6 < 16 then
    if x4 = 0 then
      if 0 ≤ wr (264 + x6) ∧ wr (264 + x6) < 296 then
      if 0 ≤ wr (264 + x2) ∧ wr (264 + x2) < 296 then
      if G 26 0 (wr (264 + x6)) = G 26 0 (wr (264 + x2)) then
        l_Mod_goesTo_73 x1 x2 x3 x4 x5 x6 1 G
      else
      l_Mod_goesTo_73 x1 x2 x3 x4 x5 x6 0 G
      else none
      else none
    else
    if G 26 0 295 = 0 then
      if 0 ≤ wr (264 + x6) ∧ wr (264 + x6) < 296 then
      if 0 ≤ wr (264 + x2) ∧ wr (264 + x2) < 296 then
      if G 26 0 (wr (264 + x6)) = G 26 0 (wr (264 + x2)) then
        l_Mod_goesTo_73 x1 x2 x3 x4 x5 x6 1 G
      else
      l_Mod_goesTo_73 x1 x2 x3 x4 x5 x6 0 G
      else none
      else none
    else
    l_Mod_goesTo_5 x1 x2 x3 (wr (x4 + 1)) G
  else
  l_Mod_goesTo_5 x1 x2 x3 (wr (x4 + 1)) G := (run_fix _ _ _ _ _).trans rfl
set_option maxRecDepth 20000 in
theorem e_l_Mod_goesTo_73 (x1 : Int) (x2 : Int) (x3 : Int) (x4 : Int) (x5 : Int) (x6 : Int) (s0 : Int) (G : GG) : l_Mod_goesTo_73 x1 x2 x3 x4 x5 x6 s0 G =
  bI (f_Mod_borderOf x1 x2 x6 G) fun r2 G1 =>
  if x4 = 1 then
    if 0 < r2 then
      l_Mod_goesTo_106 x1 x2 x3 x4 x5 x6 r2 1 G1
    else
    l_Mod_goesTo_106 x1 x2 x3 x4 x5 x6 r2 0 G1
  else
  if s0 = 0 then
    l_Mod_goesTo_106 x1 x2 x3 x4 x5 x6 r2 0 G1
  else
  if 0 < r2 then
    l_Mod_goesTo_106 x1 x2 x3 x4 x5 x6 r2 1 G1
  else
  l_Mod_goesTo_106 x1 x2 x3 x4 x5 x6 r2 0 G1 := (run_fix _ _ _ _ _).trans rfl
set_option maxRecDepth 20000 in
theorem e_l_Mod_goesTo_106 (x1 : Int) (x2 : Int) (x3 : Int) (x4 : Int) (x5 : Int) (x6 : Int) (x8 : Int) (s0 : Int) (G : GG) : l_Mod_goesTo_106 x1 x2 x3 x4 x5 x6 x8 s0 G =
  if s0 = 0 then
    l_Mod_goesTo_21 x1 x2 x3 x4 x5 (wr (x6 + 1)) G
  else
  if x5 < x8 then
    l_Mod_goesTo_21 x1 x2 x6 x4 x8 (wr (x6 + 1)) G
  else
  if x8 = x5 then
    bI (f_Mod_areaOf x1 x6 G) fun r2 G1 =>
    bI (f_Mod_areaOf x1 x3 G1) fun r4 G3 =>
    if r4 < r2 then
      l_Mod_goesTo_21 x1 x2 x6 x4 x8 (wr (x6 + 1)) G3
    else
    l_Mod_goesTo_21 x1 x2 x3 x4 x5 (wr (x6 + 1)) G3
  else
  l_Mod_goesTo_21 x1 x2 x3 x4 x5 (wr (x6 + 1)) G := (run_fix _ _ _ _ _).trans rfl
set_option maxRecDepth 20000 in
theorem e_f_Mod_isOn (x0 : Int) (x1 : Int) (x2 : Int) (x3 : Int) (x4 : Int) (x5 : Int) (G : GG) : f_Mod_isOn x0 x1 x2 x3 x4 x5 G =
  bI (f_Mod_turn x2 x3 x4 x5 x0 x1 G) fun r2 G1 =>
  if r2 = 0 then
    bI (f_Mod_isIn x0 (mMin x2 x4) (mMax x2 x4) G1) fun r4 G3 =>
    if r4 = 0 then
      rI 0 G3
    else
    bI (f_Mod_isIn x1 (mMin x3 x5) (mMax x3 x5) G3) fun r6 G5 =>
    if r6 = 0 then
      rI 0 G5
    else
    rI 1 G5
  else
  rI 0 G1 := (run_fix _ _ _ _ _).trans rfl
set_option maxRecDepth 20000 in
theorem e_f_Mod_turn (x0 : Int) (x1 : Int) (x2 : Int) (x3 : Int) (x4 : Int) (x5 : Int) (G : GG) : f_Mod_turn x0 x1 x2 x3 x4 x5 G =
  if 0 < wr ((wr ((wr (x2 - x0)) * (wr (x5 - x1)))) - (wr ((wr (x3 - x1)) * (wr (x4 - x0))))) then
    rI 1 G
  else
  if wr ((wr ((wr (x2 - x0)) * (wr (x5 - x1)))) - (wr ((wr (x3 - x1)) * (wr (x4 - x0))))) < 0 then
    rI (-1) G
  else
  rI 0 G := (run_fix _ _ _ _ _).trans rfl
set_option maxRecDepth 20000 in
theorem e_f_Mod_goBack (x1 : Int) (x2 : Int) (x3 : Int) (G : GG) : f_Mod_goBack x1 x2 x3 G =
  if 0 ≤ x1 ∧ x1 < 60 then
  if 0 ≤ x1 ∧ x1 < 60 then
  if 0 ≤ x2 ∧ x2 < 60 then
  if 0 ≤ x2 ∧ x2 < 60 then
  if 0 ≤ x3 ∧ x3 < 60 then
  if 0 ≤ x3 ∧ x3 < 60 then
  bI (f_Mod_turn (G 31 0 x1) (G 32 0 x1) (G 31 0 x2) (G 32 0 x2) (G 31 0 x3) (G 32 0 x3) G) fun r2 G1 =>
  if r2 = 0 then
    if 0 ≤ x1 ∧ x1 < 60 then
    if 0 ≤ x2 ∧ x2 < 60 then
    if 0 ≤ x3 ∧ x3 < 60 then
    if 0 ≤ x2 ∧ x2 < 60 then
    if 0 ≤ x1 ∧ x1 < 60 then
    if 0 ≤ x2 ∧ x2 < 60 then
    if 0 ≤ x3 ∧ x3 < 60 then
    if 0 ≤ x2 ∧ x2 < 60 then
    if 0 < wr ((wr ((wr ((G1 31 0 x1) - (G1 31 0 x2))) * (wr ((G1 31 0 x3) - (G1 31 0 x2))))) + (wr ((wr ((G1 32 0 x1) - (G1 32 0 x2))) * (wr ((G1 32 0 x3) - (G1 32 0 x2)))))) then
      rI 1 G1
    else
    rI 0 G1
    else none
    else none
    else none
    else none
    else none
    else none
    else none
    else none
  else
  rI 0 G1
  else none
  else none
  else none
  else none
  else none
  else none := (run_fix _ _ _ _ _).trans rfl
set_option maxRecDepth 20000 in
theorem e_f_Mod_meet (x1 : Int) (x2 : Int) (x3 : Int) (x4 : Int) (G : GG) : f_Mod_meet x1 x2 x3 x4 G =
  if 0 ≤ x1 ∧ x1 < 60 then
  if 0 ≤ x1 ∧ x1 < 60 then
  if 0 ≤ x2 ∧ x2 < 60 then
  if 0 ≤ x2 ∧ x2 < 60 then
  if 0 ≤ x3 ∧ x3 < 60 then
  if 0 ≤ x3 ∧ x3 < 60 then
  bI (f_Mod_turn (G 31 0 x1) (G 32 0 x1) (G 31 0 x2) (G 32 0 x2) (G 31 0 x3) (G 32 0 x3) G) fun r2 G1 =>
  if 0 ≤ x1 ∧ x1 < 60 then
  if 0 ≤ x1 ∧ x1 < 60 then
  if 0 ≤ x2 ∧ x2 < 60 then
  if 0 ≤ x2 ∧ x2 < 60 then
  if 0 ≤ x4 ∧ x4 < 60 then
  if 0 ≤ x4 ∧ x4 < 60 then
  bI (f_Mod_turn (G1 31 0 x1) (G1 32 0 x1) (G1 31 0 x2) (G1 32 0 x2) (G1 31 0 x4) (G1 32 0 x4) G1) fun r4 G3 =>
  if 0 ≤ x3 ∧ x3 < 60 then
  if 0 ≤ x3 ∧ x3 < 60 then
  if 0 ≤ x4 ∧ x4 < 60 then
  if 0 ≤ x4 ∧ x4 < 60 then
  if 0 ≤ x1 ∧ x1 < 60 then
  if 0 ≤ x1 ∧ x1 < 60 then
  bI (f_Mod_turn (G3 31 0 x3) (G3 32 0 x3) (G3 31 0 x4) (G3 32 0 x4) (G3 31 0 x1) (G3 32 0 x1) G3) fun r6 G5 =>
  if 0 ≤ x3 ∧ x3 < 60 then
  if 0 ≤ x3 ∧ x3 < 60 then
  if 0 ≤ x4 ∧ x4 < 60 then
  if 0 ≤ x4 ∧ x4 < 60 then
  if 0 ≤ x2 ∧ x2 < 60 then
  if 0 ≤ x2 ∧ x2 < 60 then
  bI (f_Mod_turn (G5 31 0 x3) (G5 32 0 x3) (G5 31 0 x4) (G5 32 0 x4) (G5 31 0 x2) (G5 32 0 x2) G5) fun r8 G7 =>
  if r2 = r4 then
    if 0 ≤ x3 ∧ x3 < 60 then
    if 0 ≤ x3 ∧ x3 < 60 then
    bI (f_Mod_isOnSegment (G7 31 0 x3) (G7 32 0 x3) x1 x2 G7) fun r10 G9 =>
    if r10 = 0 then
      if 0 ≤ x4 ∧ x4 < 60 then
      if 0 ≤ x4 ∧ x4 < 60 then
      bI (f_Mod_isOnSegment (G9 31 0 x4) (G9 32 0 x4) x1 x2 G9) fun r12 G11 =>
      if r12 = 0 then
        if 0 ≤ x1 ∧ x1 < 60 then
        if 0 ≤ x1 ∧ x1 < 60 then
        bI (f_Mod_isOnSegment (G11 31 0 x1) (G11 32 0 x1) x3 x4 G11) fun r14 G13 =>
        if r14 = 0 then
          if 0 ≤ x2 ∧ x2 < 60 then
          if 0 ≤ x2 ∧ x2 < 60 then
          bI (f_Mod_isOnSegment (G13 31 0 x2) (G13 32 0 x2) x3 x4 G13) fun r16 G15 =>
          if r16 = 0 then
            rI 0 G15
          else
          rI 1 G15
          else none
          else none
        else
        rI 1 G13
        else none
        else none
      else
      rI 1 G11
      else none
      else none
    else
    rI 1 G9
    else none
    else none
  else
  if r6 = r8 then
    if 0 ≤ x3 ∧ x3 < 60 then
    if 0 ≤ x3 ∧ x3 < 60 then
    bI (f_Mod_isOnSegment (G7 31 0 x3) (G7 32 0 x3) x1 x2 G7) fun r18 G17 =>
    if r18 = 0 then
      if 0 ≤ x4 ∧ x4 < 60 then
      if 0 ≤ x4 ∧ x4 < 60 then
      bI (f_Mod_isOnSegment (G17 31 0 x4) (G17 32 0 x4) x1 x2 G17) fun r20 G19 =>
      if r20 = 0 then
        if 0 ≤ x1 ∧ x1 < 60 then
        if 0 ≤ x1 ∧ x1 < 60 then
        bI (f_Mod_isOnSegment (G19 31 0 x1) (G19 32 0 x1) x3 x4 G19) fun r22 G21 =>
        if r22 = 0 then
          if 0 ≤ x2 ∧ x2 < 60 then
          if 0 ≤ x2 ∧ x2 < 60 then
          bI (f_Mod_isOnSegment (G21 31 0 x2) (G21 32 0 x2) x3 x4 G21) fun r24 G23 =>
          if r24 = 0 then
            rI 0 G23
          else
          rI 1 G23
          else none
          else none
        else
        rI 1 G21
        else none
        else none
      else
      rI 1 G19
      else none
      else none
    else
    rI 1 G17
    else none
    else none
  else
  if 0 < wr (r2 * r4) then
    if 0 ≤ x3 ∧ x3 < 60 then
    if 0 ≤ x3 ∧ x3 < 60 then
    bI (f_Mod_isOnSegment (G7 31 0 x3) (G7 32 0 x3) x1 x2 G7) fun r26 G25 =>
    if r26 = 0 then
      if 0 ≤ x4 ∧ x4 < 60 then
      if 0 ≤ x4 ∧ x4 < 60 then
      bI (f_Mod_isOnSegment (G25 31 0 x4) (G25 32 0 x4) x1 x2 G25) fun r28 G27 =>
      if r28 = 0 then
        if 0 ≤ x1 ∧ x1 < 60 then
        if 0 ≤ x1 ∧ x1 < 60 then
        bI (f_Mod_isOnSegment (G27 31 0 x1) (G27 32 0 x1) x3 x4 G27) fun r30 G29 =>
        if r30 = 0 then
          if 0 ≤ x2 ∧ x2 < 60 then
          if 0 ≤ x2 ∧ x2 < 60 then
          bI (f_Mod_isOnSegment (G29 31 0 x2) (G29 32 0 x2) x3 x4 G29) fun r32 G31 =>
          if r32 = 0 then
            rI 0 G31
          else
          rI 1 G31
          else none
          else none
        else
        rI 1 G29
        else none
        else none
      else
      rI 1 G27
      else none
      else none
    else
    rI 1 G25
    else none
    else none
  else
  if 0 < wr (r6 * r8) then
    if 0 ≤ x3 ∧ x3 < 60 then
    if 0 ≤ x3 ∧ x3 < 60 then
    bI (f_Mod_isOnSegment (G7 31 0 x3) (G7 32 0 x3) x1 x2 G7) fun r34 G33 =>
    if r34 = 0 then
      if 0 ≤ x4 ∧ x4 < 60 then
      if 0 ≤ x4 ∧ x4 < 60 then
      bI (f_Mod_isOnSegment (G33 31 0 x4) (G33 32 0 x4) x1 x2 G33) fun r36 G35 =>
      if r36 = 0 then
        if 0 ≤ x1 ∧ x1 < 60 then
        if 0 ≤ x1 ∧ x1 < 60 then
        bI (f_Mod_isOnSegment (G35 31 0 x1) (G35 32 0 x1) x3 x4 G35) fun r38 G37 =>
        if r38 = 0 then
          if 0 ≤ x2 ∧ x2 < 60 then
          if 0 ≤ x2 ∧ x2 < 60 then
          bI (f_Mod_isOnSegment (G37 31 0 x2) (G37 32 0 x2) x3 x4 G37) fun r40 G39 =>
          if r40 = 0 then
            rI 0 G39
          else
          rI 1 G39
          else none
          else none
        else
        rI 1 G37
        else none
        else none
      else
      rI 1 G35
      else none
      else none
    else
    rI 1 G33
    else none
    else none
  else
  rI 1 G7
  else none
  else none
  else none
  else none
  else none
  else none
  else none
  else none
  else none
  else none
  else none
  else none
  else none
  else none
  else none
  else none
  else none
  else none
  else none
  else none
  else none
  else none
  else none
  else none := (run_fix _ _ _ _ _).trans rfl
set_option maxRecDepth 20000 in
theorem e_f_Mod_areSame (x1 : Int) (G : GG) : f_Mod_areSame x1 G =
  l_Mod_areSame_5 x1 (wr (10 * x1)) G := (run_fix _ _ _ _ _).trans rfl
set_option maxRecDepth 20000 in
theorem e_l_Mod_areSame_5 (x1 : Int) (x2 : Int) (G : GG) : l_Mod_areSame_5 x1 x2 G =
  if 0 ≤ x1 ∧ x1 < 6 then
  if wr (x2 + 1) < wr ((wr (10 * x1)) + (G 30 0 x1)) then
    if 0 ≤ x2 ∧ x2 < 60 then
    if 0 ≤ wr (x2 + 1) ∧ wr (x2 + 1) < 60 then
    if G 31 0 x2 = G 31 0 (wr (x2 + 1)) then
      if 0 ≤ x2 ∧ x2 < 60 then
      if 0 ≤ wr (x2 + 1) ∧ wr (x2 + 1) < 60 then
      if G 32 0 x2 = G 32 0 (wr (x2 + 1)) then
        rI 1 G
      else
      l_Mod_areSame_5 x1 (wr (x2 + 1)) G
      else none
      else none
    else
    l_Mod_areSame_5 x1 (wr (x2 + 1)) G
    else none
    else none
  else
  rI 0 G
  else none := (run_fix _ _ _ _ _).trans rfl
set_option maxRecDepth 20000 in
theorem e_f_Mod_isSimple (x1 : Int) (G : GG) : f_Mod_isSimple x1 G =
  l_Mod_isSimple_7 x1 (wr (10 * x1)) 0 G := (run_fix _ _ _ _ _).trans rfl
set_option maxRecDepth 20000 in
theorem e_l_Mod_isSimple_7 (x1 : Int) (x2 : Int) (x3 : Int) (G : GG) : l_Mod_isSimple_7 x1 x2 x3 G =
  if 0 ≤ x1 ∧ x1 < 6 then
  if wr (x3 + 1) < G 30 0 x1 then
    if 0 ≤ x1 ∧ x1 < 6 then
    if wr (x3 + 2) < G 30 0 x1 then
      bI (f_Mod_goBack (wr (x2 + x3)) (wr ((wr (x2 + x3)) + 1)) (wr ((wr (x2 + x3)) + 2)) G) fun r2 G1 =>
      if r2 = 0 then
        l_Mod_isSimple_58 x1 x2 x3 (wr (x3 + 2)) G1
      else
      rI 0 G1
    else
    l_Mod_isSimple_58 x1 x2 x3 (wr (x3 + 2)) G
    else none
  else
  rI 1 G
  else none := (run_fix _ _ _ _ _).trans rfl
set_option maxRecDepth 20000 in
theorem e_l_Mod_isSimple_58 (x1 : Int) (x2 : Int) (x3 : Int) (x4 : Int) (G : GG) : l_Mod_isSimple_58 x1 x2 x3 x4 G =
  if 0 ≤ x1 ∧ x1 < 6 then
  if wr (x4 + 1) < G 30 0 x1 then
    bI (f_Mod_meet (wr (x2 + x3)) (wr ((wr (x2 + x3)) + 1)) (wr (x2 + x4)) (wr ((wr (x2 + x4)) + 1)) G) fun r2 G1 =>
    if r2 = 0 then
      l_Mod_isSimple_58 x1 x2 x3 (wr (x4 + 1)) G1
    else
    rI 0 G1
  else
  l_Mod_isSimple_7 x1 x2 (wr (x3 + 1)) G
  else none := (run_fix _ _ _ _ _).trans rfl
set_option maxRecDepth 20000 in
theorem e_f_Mod_meetOther (x1 : Int) (x2 : Int) (G : GG) : f_Mod_meetOther x1 x2 G =
  l_Mod_meetOther_2 x1 x2 0 G := (run_fix _ _ _ _ _).trans rfl
set_option maxRecDepth 20000 in
theorem e_l_Mod_meetOther_2 (x1 : Int) (x2 : Int) (x3 : Int) (G : GG) : l_Mod_meetOther_2 x1 x2 x3 G =
  if x3 < x2 then
    l_Mod_meetOther_10 x1 x2 x3 0 G
  else
  rI 0 G := (run_fix _ _ _ _ _).trans rfl
set_option maxRecDepth 20000 in
theorem e_l_Mod_meetOther_10 (x1 : Int) (x2 : Int) (x3 : Int) (x4 : Int) (G : GG) : l_Mod_meetOther_10 x1 x2 x3 x4 G =
  if x3 = x1 then
    l_Mod_meetOther_2 x1 x2 (wr (x3 + 1)) G
  else
  if 0 ≤ x1 ∧ x1 < 6 then
  if wr (x4 + 1) < G 30 0 x1 then
    l_Mod_meetOther_31 x1 x2 x3 x4 0 G
  else
  l_Mod_meetOther_2 x1 x2 (wr (x3 + 1)) G
  else none := (run_fix _ _ _ _ _).trans rfl
set_option maxRecDepth 20000 in
theorem e_l_Mod_meetOther_31 (x1 : Int) (x2 : Int) (x3 : Int) (x4 : Int) (x5 : Int) (G : GG) : l_Mod_meetOther_31 x1 x2 x3 x4 x5 G =
  if 0 ≤ x3 ∧ x3 < 6 then
  if wr (x5 + 1) < G 30 0 x3 then
    bI (f_Mod_meet (wr ((wr (10 * x1)) + x4)) (wr ((wr ((wr (10 * x1)) + x4)) + 1)) (wr ((wr (10 * x3)) + x5)) (wr ((wr ((wr (10 * x3)) + x5)) + 1)) G) fun r2 G1 =>
    if r2 = 0 then
      l_Mod_meetOther_31 x1 x2 x3 x4 (wr (x5 + 1)) G1
    else
    rI 1 G1
  else
  l_Mod_meetOther_10 x1 x2 x3 (wr (x4 + 1)) G
  else none := (run_fix _ _ _ _ _).trans rfl
set_option maxRecDepth 20000 in
theorem e_f_Mod_hasPointOn (x1 : Int) (G : GG) : f_Mod_hasPointOn x1 G =
  l_Mod_hasPointOn_2 x1 0 G := (run_fix _ _ _ _ _).trans rfl
set_option maxRecDepth 20000 in
theorem e_l_Mod_hasPointOn_2 (x1 : Int) (x2 : Int) (G : GG) : l_Mod_hasPointOn_2 x1 x2 G =
  if x2 < G 26 0 127 then
    l_Mod_hasPointOn_18 x1 x2 (wr (10 * x1)) G
  else
  rI 0 G := (run_fix _ _ _ _ _).trans rfl
set_option maxRecDepth 20000 in
theorem e_l_Mod_hasPointOn_18 (x1 : Int) (x2 : Int) (x3 : Int) (G : GG) : l_Mod_hasPointOn_18 x1 x2 x3 G =
  if 0 ≤ x1 ∧ x1 < 6 then
  if wr (x3 + 1) < wr ((wr (10 * x1)) + (G 30 0 x1)) then
    bI (f_Mod_ofPoint x2 0 G) fun r2 G1 =>
    bI (f_Mod_ofPoint x2 1 G1) fun r4 G3 =>
    bI (f_Mod_isOnSegment r2 r4 x3 (wr (x3 + 1)) G3) fun r6 G5 =>
    if r6 = 0 then
      l_Mod_hasPointOn_18 x1 x2 (wr (x3 + 1)) G5
    else
    rI 1 G5
  else
  l_Mod_hasPointOn_2 x1 (wr (x2 + 1)) G
  else none := (run_fix _ _ _ _ _).trans rfl
