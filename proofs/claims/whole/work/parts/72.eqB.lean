/-! ===== written by a program: each function, unfolded once ===== -/
set_option maxRecDepth 20000 in
theorem e_l_Law_law_28 (x5 : Int) (G : GG) : l_Law_law_28 x5 G =
  if wr ((G 47 0 0) - 7) < x5 then
    rI 1 G
  else
  if 0 ≤ x5 ∧ x5 < G 47 0 0 then
  if bAnd (G 44 0 x5) 63 = 0 then
    l_Law_law_236 x5 G
  else
  if bAnd (G 44 0 x5) 63 = 1 then
    l_Law_law_249 x5 G
  else
  if bAnd (G 44 0 x5) 63 = 2 then
    l_Law_law_367 x5 G
  else
  if bAnd (G 44 0 x5) 63 = 3 then
    l_Law_law_423 x5 G
  else
  if bAnd (G 44 0 x5) 63 = 4 then
    l_Law_law_479 x5 G
  else
  if bAnd (G 44 0 x5) 63 = 5 then
    l_Law_law_547 x5 G
  else
  if bAnd (G 44 0 x5) 63 = 6 then
    l_Law_law_651 x5 G
  else
  if bAnd (G 44 0 x5) 63 = 7 then
    l_Law_law_719 x5 G
  else
  if bAnd (G 44 0 x5) 63 = 8 then
    l_Law_law_760 x5 G
  else
  if bAnd (G 44 0 x5) 63 = 9 then
    l_Law_law_840 x5 G
  else
  if bAnd (G 44 0 x5) 63 = 10 then
    l_Law_law_908 x5 G
  else
  if bAnd (G 44 0 x5) 63 = 11 then
    l_Law_law_964 x5 G
  else
  if bAnd (G 44 0 x5) 63 = 12 then
    l_Law_law_1032 x5 G
  else
  if bAnd (G 44 0 x5) 63 = 13 then
    l_Law_law_1100 x5 G
  else
  if bAnd (G 44 0 x5) 63 = 14 then
    l_Law_law_1208 x5 G
  else
  if bAnd (G 44 0 x5) 63 = 15 then
    l_Law_law_1276 x5 G
  else
  if bAnd (G 44 0 x5) 63 = 16 then
    l_Law_law_1356 x5 G
  else
  if bAnd (G 44 0 x5) 63 = 17 then
    l_Law_law_1436 x5 G
  else
  if bAnd (G 44 0 x5) 63 = 18 then
    l_Law_law_1504 x5 G
  else
  if bAnd (G 44 0 x5) 63 = 19 then
    l_Law_law_1572 x5 G
  else
  if bAnd (G 44 0 x5) 63 = 20 then
    l_Law_law_1628 x5 G
  else
  if bAnd (G 44 0 x5) 63 = 21 then
    l_Law_law_1708 x5 G
  else
  if bAnd (G 44 0 x5) 63 = 22 then
    l_Law_law_1788 x5 G
  else
  if bAnd (G 44 0 x5) 63 = 23 then
    l_Law_law_1856 x5 G
  else
  if bAnd (G 44 0 x5) 63 = 24 then
    l_Law_law_1936 x5 G
  else
  if bAnd (G 44 0 x5) 63 = 25 then
    l_Law_law_2004 x5 G
  else
  if bAnd (G 44 0 x5) 63 = 26 then
    l_Law_law_2072 x5 G
  else
  if bAnd (G 44 0 x5) 63 = 27 then
    l_Law_law_2140 x5 G
  else
  if bAnd (G 44 0 x5) 63 = 28 then
    l_Law_law_2196 x5 G
  else
  if bAnd (G 44 0 x5) 63 = 29 then
    l_Law_law_2264 x5 G
  else
  if bAnd (G 44 0 x5) 63 = 30 then
    l_Law_law_2320 x5 G
  else
  if bAnd (G 44 0 x5) 63 = 31 then
    l_Law_law_2388 x5 G
  else
  if bAnd (G 44 0 x5) 63 = 32 then
    l_Law_law_2468 x5 G
  else
  if bAnd (G 44 0 x5) 63 = 33 then
    l_Law_law_2524 x5 G
  else
  if bAnd (G 44 0 x5) 63 = 34 then
    l_Law_law_2604 x5 G
  else
  if bAnd (G 44 0 x5) 63 = 35 then
    l_Law_law_2660 x5 G
  else
  if bAnd (G 44 0 x5) 63 = 36 then
    l_Law_law_2737 x5 G
  else
  if bAnd (G 44 0 x5) 63 = 37 then
    l_Law_law_2793 x5 G
  else
  if bAnd (G 44 0 x5) 63 = 38 then
    l_Law_law_2851 x5 G
  else
  if bAnd (G 44 0 x5) 63 = 39 then
    l_Law_law_2895 x5 G
  else
  if bAnd (G 44 0 x5) 63 = 40 then
    l_Law_law_2939 x5 G
  else
  if bAnd (G 44 0 x5) 63 = 41 then
    l_Law_law_3019 x5 G
  else
  if bAnd (G 44 0 x5) 63 = 42 then
    l_Law_law_3063 x5 G
  else
  if bAnd (G 44 0 x5) 63 = 43 then
    l_Law_law_3076 x5 G
  else
  l_Law_law_28 (wr (x5 + 7)) G
  else none := (run_fix _ _ _ _ _).trans rfl
set_option maxRecDepth 20000 in
theorem e_l_Law_law_236 (x5 : Int) (G : GG) : l_Law_law_236 x5 G =
  bI (f_Map_clear G) fun r2 G1 =>
  bI (f_Mod_clear G1) fun r4 G3 =>
  if r2 = r4 then
    l_Law_law_28 (wr (x5 + 7)) G3
  else
  rI 0 G3 := (run_fix _ _ _ _ _).trans rfl
set_option maxRecDepth 20000 in
theorem e_l_Law_law_249 (x5 : Int) (G : GG) : l_Law_law_249 x5 G =
  if 0 ≤ wr (x5 + 1) ∧ wr (x5 + 1) < G 47 0 0 then
  if 0 ≤ wr (x5 + 2) ∧ wr (x5 + 2) < G 47 0 0 then
  if 0 ≤ wr (x5 + 3) ∧ wr (x5 + 3) < G 47 0 0 then
  if 0 ≤ wr (x5 + 4) ∧ wr (x5 + 4) < G 47 0 0 then
  if 0 ≤ wr (x5 + 5) ∧ wr (x5 + 5) < G 47 0 0 then
  if 0 ≤ wr (x5 + 6) ∧ wr (x5 + 6) < G 47 0 0 then
  bI (f_Law_addPoint (G 44 0 (wr (x5 + 1))) (G 44 0 (wr (x5 + 2))) (G 44 0 (wr (x5 + 3))) (G 44 0 (wr (x5 + 4))) (G 44 0 (wr (x5 + 5))) (G 44 0 (wr (x5 + 6))) G) fun r2 G1 =>
  if 0 ≤ wr (x5 + 1) ∧ wr (x5 + 1) < G1 47 0 0 then
  if 0 ≤ wr (x5 + 2) ∧ wr (x5 + 2) < G1 47 0 0 then
  if 0 ≤ wr (x5 + 3) ∧ wr (x5 + 3) < G1 47 0 0 then
  if 0 ≤ wr (x5 + 4) ∧ wr (x5 + 4) < G1 47 0 0 then
  if 0 ≤ wr (x5 + 5) ∧ wr (x5 + 5) < G1 47 0 0 then
  if 0 ≤ wr (x5 + 6) ∧ wr (x5 + 6) < G1 47 0 0 then
  bI (f_Mod_addPoint (G1 44 0 (wr (x5 + 1))) (G1 44 0 (wr (x5 + 2))) (G1 44 0 (wr (x5 + 3))) (G1 44 0 (wr (x5 + 4))) (G1 44 0 (wr (x5 + 5))) (G1 44 0 (wr (x5 + 6))) G1) fun r4 G3 =>
  bI (f_Mod_thrown G3) fun r6 G5 =>
  if r6 = r2 then
    if r2 = 0 then
      if jCmp (G5 42 0 0) r4 = 0 then
        l_Law_law_28 (wr (x5 + 7)) G5
      else
      rI 0 G5
    else
    l_Law_law_28 (wr (x5 + 7)) G5
  else
  rI 0 G5
  else none
  else none
  else none
  else none
  else none
  else none
  else none
  else none
  else none
  else none
  else none
  else none := (run_fix _ _ _ _ _).trans rfl
set_option maxRecDepth 20000 in
theorem e_l_Law_law_367 (x5 : Int) (G : GG) : l_Law_law_367 x5 G =
  if 0 ≤ wr (x5 + 1) ∧ wr (x5 + 1) < G 47 0 0 then
  bI (f_Law_removeLine (G 44 0 (wr (x5 + 1))) G) fun r2 G1 =>
  if 0 ≤ wr (x5 + 1) ∧ wr (x5 + 1) < G1 47 0 0 then
  bI (f_Mod_removeLine (G1 44 0 (wr (x5 + 1))) G1) fun r4 G3 =>
  bI (f_Mod_thrown G3) fun r6 G5 =>
  if r6 = r2 then
    if r2 = 0 then
      if jCmp (G5 42 0 0) r4 = 0 then
        l_Law_law_28 (wr (x5 + 7)) G5
      else
      rI 0 G5
    else
    l_Law_law_28 (wr (x5 + 7)) G5
  else
  rI 0 G5
  else none
  else none := (run_fix _ _ _ _ _).trans rfl
set_option maxRecDepth 20000 in
theorem e_l_Law_law_423 (x5 : Int) (G : GG) : l_Law_law_423 x5 G =
  if 0 ≤ wr (x5 + 1) ∧ wr (x5 + 1) < G 47 0 0 then
  bI (f_Law_removePoint (G 44 0 (wr (x5 + 1))) G) fun r2 G1 =>
  if 0 ≤ wr (x5 + 1) ∧ wr (x5 + 1) < G1 47 0 0 then
  bI (f_Mod_removePoint (G1 44 0 (wr (x5 + 1))) G1) fun r4 G3 =>
  bI (f_Mod_thrown G3) fun r6 G5 =>
  if r6 = r2 then
    if r2 = 0 then
      if jCmp (G5 42 0 0) r4 = 0 then
        l_Law_law_28 (wr (x5 + 7)) G5
      else
      rI 0 G5
    else
    l_Law_law_28 (wr (x5 + 7)) G5
  else
  rI 0 G5
  else none
  else none := (run_fix _ _ _ _ _).trans rfl
set_option maxRecDepth 20000 in
theorem e_l_Law_law_479 (x5 : Int) (G : GG) : l_Law_law_479 x5 G =
  if 0 ≤ wr (x5 + 1) ∧ wr (x5 + 1) < G 47 0 0 then
  if 0 ≤ wr (x5 + 2) ∧ wr (x5 + 2) < G 47 0 0 then
  bI (f_Law_setCorner (G 44 0 (wr (x5 + 1))) (G 44 0 (wr (x5 + 2))) G) fun r2 G1 =>
  if 0 ≤ wr (x5 + 1) ∧ wr (x5 + 1) < G1 47 0 0 then
  if 0 ≤ wr (x5 + 2) ∧ wr (x5 + 2) < G1 47 0 0 then
  bI (f_Mod_setCorner (G1 44 0 (wr (x5 + 1))) (G1 44 0 (wr (x5 + 2))) G1) fun r4 G3 =>
  bI (f_Mod_thrown G3) fun r6 G5 =>
  if r6 = r2 then
    if r2 = 0 then
      if jCmp (G5 42 0 0) r4 = 0 then
        l_Law_law_28 (wr (x5 + 7)) G5
      else
      rI 0 G5
    else
    l_Law_law_28 (wr (x5 + 7)) G5
  else
  rI 0 G5
  else none
  else none
  else none
  else none := (run_fix _ _ _ _ _).trans rfl
set_option maxRecDepth 20000 in
theorem e_l_Law_law_547 (x5 : Int) (G : GG) : l_Law_law_547 x5 G =
  if 0 ≤ wr (x5 + 1) ∧ wr (x5 + 1) < G 47 0 0 then
  if 0 ≤ wr (x5 + 2) ∧ wr (x5 + 2) < G 47 0 0 then
  if 0 ≤ wr (x5 + 3) ∧ wr (x5 + 3) < G 47 0 0 then
  if 0 ≤ wr (x5 + 4) ∧ wr (x5 + 4) < G 47 0 0 then
  if 0 ≤ wr (x5 + 5) ∧ wr (x5 + 5) < G 47 0 0 then
  bI (f_Law_paint (G 44 0 (wr (x5 + 1))) (G 44 0 (wr (x5 + 2))) (G 44 0 (wr (x5 + 3))) (G 44 0 (wr (x5 + 4))) (G 44 0 (wr (x5 + 5))) G) fun r2 G1 =>
  if 0 ≤ wr (x5 + 1) ∧ wr (x5 + 1) < G1 47 0 0 then
  if 0 ≤ wr (x5 + 2) ∧ wr (x5 + 2) < G1 47 0 0 then
  if 0 ≤ wr (x5 + 3) ∧ wr (x5 + 3) < G1 47 0 0 then
  if 0 ≤ wr (x5 + 4) ∧ wr (x5 + 4) < G1 47 0 0 then
  if 0 ≤ wr (x5 + 5) ∧ wr (x5 + 5) < G1 47 0 0 then
  bI (f_Mod_paint (G1 44 0 (wr (x5 + 1))) (G1 44 0 (wr (x5 + 2))) (G1 44 0 (wr (x5 + 3))) (G1 44 0 (wr (x5 + 4))) (G1 44 0 (wr (x5 + 5))) G1) fun r4 G3 =>
  bI (f_Mod_thrown G3) fun r6 G5 =>
  if r6 = r2 then
    if r2 = 0 then
      if jCmp (G5 42 0 0) r4 = 0 then
        l_Law_law_28 (wr (x5 + 7)) G5
      else
      rI 0 G5
    else
    l_Law_law_28 (wr (x5 + 7)) G5
  else
  rI 0 G5
  else none
  else none
  else none
  else none
  else none
  else none
  else none
  else none
  else none
  else none := (run_fix _ _ _ _ _).trans rfl
set_option maxRecDepth 20000 in
theorem e_l_Law_law_651 (x5 : Int) (G : GG) : l_Law_law_651 x5 G =
  if 0 ≤ wr (x5 + 1) ∧ wr (x5 + 1) < G 47 0 0 then
  if 0 ≤ wr (x5 + 2) ∧ wr (x5 + 2) < G 47 0 0 then
  bI (f_Law_setClass (G 44 0 (wr (x5 + 1))) (G 44 0 (wr (x5 + 2))) G) fun r2 G1 =>
  if 0 ≤ wr (x5 + 1) ∧ wr (x5 + 1) < G1 47 0 0 then
  if 0 ≤ wr (x5 + 2) ∧ wr (x5 + 2) < G1 47 0 0 then
  bI (f_Mod_setClass (G1 44 0 (wr (x5 + 1))) (G1 44 0 (wr (x5 + 2))) G1) fun r4 G3 =>
  bI (f_Mod_thrown G3) fun r6 G5 =>
  if r6 = r2 then
    if r2 = 0 then
      if jCmp (G5 42 0 0) r4 = 0 then
        l_Law_law_28 (wr (x5 + 7)) G5
      else
      rI 0 G5
    else
    l_Law_law_28 (wr (x5 + 7)) G5
  else
  rI 0 G5
  else none
  else none
  else none
  else none := (run_fix _ _ _ _ _).trans rfl
set_option maxRecDepth 20000 in
theorem e_l_Law_law_719 (x5 : Int) (G : GG) : l_Law_law_719 x5 G =
  if 0 ≤ wr (x5 + 1) ∧ wr (x5 + 1) < G 47 0 0 then
  if G 44 0 (wr (x5 + 1)) = 0 then
    bI (f_Map_setStrict 0 G) fun r2 G1 =>
    if 0 ≤ wr (x5 + 1) ∧ wr (x5 + 1) < G1 47 0 0 then
    if G1 44 0 (wr (x5 + 1)) = 0 then
      bI (f_Mod_setStrict 0 G1) fun r4 G3 =>
      if r2 = r4 then
        l_Law_law_28 (wr (x5 + 7)) G3
      else
      rI 0 G3
    else
    bI (f_Mod_setStrict 1 G1) fun r6 G5 =>
    if r2 = r6 then
      l_Law_law_28 (wr (x5 + 7)) G5
    else
    rI 0 G5
    else none
  else
  bI (f_Map_setStrict 1 G) fun r8 G7 =>
  if 0 ≤ wr (x5 + 1) ∧ wr (x5 + 1) < G7 47 0 0 then
  if G7 44 0 (wr (x5 + 1)) = 0 then
    bI (f_Mod_setStrict 0 G7) fun r10 G9 =>
    if r8 = r10 then
      l_Law_law_28 (wr (x5 + 7)) G9
    else
    rI 0 G9
  else
  bI (f_Mod_setStrict 1 G7) fun r12 G11 =>
  if r8 = r12 then
    l_Law_law_28 (wr (x5 + 7)) G11
  else
  rI 0 G11
  else none
  else none := (run_fix _ _ _ _ _).trans rfl
set_option maxRecDepth 20000 in
theorem e_l_Law_law_760 (x5 : Int) (G : GG) : l_Law_law_760 x5 G =
  if 0 ≤ wr (x5 + 1) ∧ wr (x5 + 1) < G 47 0 0 then
  if 0 ≤ wr (x5 + 2) ∧ wr (x5 + 2) < G 47 0 0 then
  if 0 ≤ wr (x5 + 3) ∧ wr (x5 + 3) < G 47 0 0 then
  bI (f_Law_set (G 44 0 (wr (x5 + 1))) (G 44 0 (wr (x5 + 2))) (G 44 0 (wr (x5 + 3))) G) fun r2 G1 =>
  if 0 ≤ wr (x5 + 1) ∧ wr (x5 + 1) < G1 47 0 0 then
  if 0 ≤ wr (x5 + 2) ∧ wr (x5 + 2) < G1 47 0 0 then
  if 0 ≤ wr (x5 + 3) ∧ wr (x5 + 3) < G1 47 0 0 then
  bI (f_Mod_set (G1 44 0 (wr (x5 + 1))) (G1 44 0 (wr (x5 + 2))) (G1 44 0 (wr (x5 + 3))) G1) fun r4 G3 =>
  bI (f_Mod_thrown G3) fun r6 G5 =>
  if r6 = r2 then
    if r2 = 0 then
      if jCmp (G5 42 0 0) r4 = 0 then
        l_Law_law_28 (wr (x5 + 7)) G5
      else
      rI 0 G5
    else
    l_Law_law_28 (wr (x5 + 7)) G5
  else
  rI 0 G5
  else none
  else none
  else none
  else none
  else none
  else none := (run_fix _ _ _ _ _).trans rfl
set_option maxRecDepth 20000 in
theorem e_l_Law_law_840 (x5 : Int) (G : GG) : l_Law_law_840 x5 G =
  if 0 ≤ wr (x5 + 1) ∧ wr (x5 + 1) < G 47 0 0 then
  if 0 ≤ wr (x5 + 2) ∧ wr (x5 + 2) < G 47 0 0 then
  bI (f_Law_setting (G 44 0 (wr (x5 + 1))) (G 44 0 (wr (x5 + 2))) G) fun r2 G1 =>
  if 0 ≤ wr (x5 + 1) ∧ wr (x5 + 1) < G1 47 0 0 then
  if 0 ≤ wr (x5 + 2) ∧ wr (x5 + 2) < G1 47 0 0 then
  bI (f_Mod_setting2 (G1 44 0 (wr (x5 + 1))) (G1 44 0 (wr (x5 + 2))) G1) fun r4 G3 =>
  bI (f_Mod_thrown G3) fun r6 G5 =>
  if r6 = r2 then
    if r2 = 0 then
      if jCmp (G5 42 0 0) r4 = 0 then
        l_Law_law_28 (wr (x5 + 7)) G5
      else
      rI 0 G5
    else
    l_Law_law_28 (wr (x5 + 7)) G5
  else
  rI 0 G5
  else none
  else none
  else none
  else none := (run_fix _ _ _ _ _).trans rfl
set_option maxRecDepth 20000 in
theorem e_l_Law_law_908 (x5 : Int) (G : GG) : l_Law_law_908 x5 G =
  if 0 ≤ wr (x5 + 1) ∧ wr (x5 + 1) < G 47 0 0 then
  bI (f_Law_count (G 44 0 (wr (x5 + 1))) G) fun r2 G1 =>
  if 0 ≤ wr (x5 + 1) ∧ wr (x5 + 1) < G1 47 0 0 then
  bI (f_Mod_count (G1 44 0 (wr (x5 + 1))) G1) fun r4 G3 =>
  bI (f_Mod_thrown G3) fun r6 G5 =>
  if r6 = r2 then
    if r2 = 0 then
      if jCmp (G5 42 0 0) r4 = 0 then
        l_Law_law_28 (wr (x5 + 7)) G5
      else
      rI 0 G5
    else
    l_Law_law_28 (wr (x5 + 7)) G5
  else
  rI 0 G5
  else none
  else none := (run_fix _ _ _ _ _).trans rfl
set_option maxRecDepth 20000 in
theorem e_l_Law_law_964 (x5 : Int) (G : GG) : l_Law_law_964 x5 G =
  if 0 ≤ wr (x5 + 1) ∧ wr (x5 + 1) < G 47 0 0 then
  if 0 ≤ wr (x5 + 2) ∧ wr (x5 + 2) < G 47 0 0 then
  bI (f_Law_point (G 44 0 (wr (x5 + 1))) (G 44 0 (wr (x5 + 2))) G) fun r2 G1 =>
  if 0 ≤ wr (x5 + 1) ∧ wr (x5 + 1) < G1 47 0 0 then
  if 0 ≤ wr (x5 + 2) ∧ wr (x5 + 2) < G1 47 0 0 then
  bI (f_Mod_point (G1 44 0 (wr (x5 + 1))) (G1 44 0 (wr (x5 + 2))) G1) fun r4 G3 =>
  bI (f_Mod_thrown G3) fun r6 G5 =>
  if r6 = r2 then
    if r2 = 0 then
      if jCmp (G5 42 0 0) r4 = 0 then
        l_Law_law_28 (wr (x5 + 7)) G5
      else
      rI 0 G5
    else
    l_Law_law_28 (wr (x5 + 7)) G5
  else
  rI 0 G5
  else none
  else none
  else none
  else none := (run_fix _ _ _ _ _).trans rfl
set_option maxRecDepth 20000 in
theorem e_l_Law_law_1032 (x5 : Int) (G : GG) : l_Law_law_1032 x5 G =
  if 0 ≤ wr (x5 + 1) ∧ wr (x5 + 1) < G 47 0 0 then
  if 0 ≤ wr (x5 + 2) ∧ wr (x5 + 2) < G 47 0 0 then
  bI (f_Law_vertices (G 44 0 (wr (x5 + 1))) (G 44 0 (wr (x5 + 2))) G) fun r2 G1 =>
  if 0 ≤ wr (x5 + 1) ∧ wr (x5 + 1) < G1 47 0 0 then
  if 0 ≤ wr (x5 + 2) ∧ wr (x5 + 2) < G1 47 0 0 then
  bI (f_Mod_vertices (G1 44 0 (wr (x5 + 1))) (G1 44 0 (wr (x5 + 2))) G1) fun r4 G3 =>
  bI (f_Mod_thrown G3) fun r6 G5 =>
  if r6 = r2 then
    if r2 = 0 then
      if jCmp (G5 42 0 0) r4 = 0 then
        l_Law_law_28 (wr (x5 + 7)) G5
      else
      rI 0 G5
    else
    l_Law_law_28 (wr (x5 + 7)) G5
  else
  rI 0 G5
  else none
  else none
  else none
  else none := (run_fix _ _ _ _ _).trans rfl
set_option maxRecDepth 20000 in
theorem e_l_Law_law_1100 (x5 : Int) (G : GG) : l_Law_law_1100 x5 G =
  if 0 ≤ wr (x5 + 1) ∧ wr (x5 + 1) < G 47 0 0 then
  if 0 ≤ wr (x5 + 2) ∧ wr (x5 + 2) < G 47 0 0 then
  if 0 ≤ wr (x5 + 3) ∧ wr (x5 + 3) < G 47 0 0 then
  if 0 ≤ wr (x5 + 4) ∧ wr (x5 + 4) < G 47 0 0 then
  if G 44 0 (wr (x5 + 4)) = 0 then
    bI (f_Law_vertex (G 44 0 (wr (x5 + 1))) (G 44 0 (wr (x5 + 2))) (G 44 0 (wr (x5 + 3))) 0 G) fun r2 G1 =>
    if 0 ≤ wr (x5 + 1) ∧ wr (x5 + 1) < G1 47 0 0 then
    if 0 ≤ wr (x5 + 2) ∧ wr (x5 + 2) < G1 47 0 0 then
    if 0 ≤ wr (x5 + 3) ∧ wr (x5 + 3) < G1 47 0 0 then
    if 0 ≤ wr (x5 + 4) ∧ wr (x5 + 4) < G1 47 0 0 then
    if G1 44 0 (wr (x5 + 4)) = 0 then
      bI (f_Mod_vertex (G1 44 0 (wr (x5 + 1))) (G1 44 0 (wr (x5 + 2))) (G1 44 0 (wr (x5 + 3))) 0 G1) fun r4 G3 =>
      bI (f_Mod_thrown G3) fun r6 G5 =>
      if r6 = r2 then
        if r2 = 0 then
          if jCmp (G5 42 0 0) r4 = 0 then
            l_Law_law_28 (wr (x5 + 7)) G5
          else
          rI 0 G5
        else
        l_Law_law_28 (wr (x5 + 7)) G5
      else
      rI 0 G5
    else
    bI (f_Mod_vertex (G1 44 0 (wr (x5 + 1))) (G1 44 0 (wr (x5 + 2))) (G1 44 0 (wr (x5 + 3))) 1 G1) fun r8 G7 =>
    bI (f_Mod_thrown G7) fun r10 G9 =>
    if r10 = r2 then
      if r2 = 0 then
        if jCmp (G9 42 0 0) r8 = 0 then
          l_Law_law_28 (wr (x5 + 7)) G9
        else
        rI 0 G9
      else
      l_Law_law_28 (wr (x5 + 7)) G9
    else
    rI 0 G9
    else none
    else none
    else none
    else none
  else
  bI (f_Law_vertex (G 44 0 (wr (x5 + 1))) (G 44 0 (wr (x5 + 2))) (G 44 0 (wr (x5 + 3))) 1 G) fun r12 G11 =>
  if 0 ≤ wr (x5 + 1) ∧ wr (x5 + 1) < G11 47 0 0 then
  if 0 ≤ wr (x5 + 2) ∧ wr (x5 + 2) < G11 47 0 0 then
  if 0 ≤ wr (x5 + 3) ∧ wr (x5 + 3) < G11 47 0 0 then
  if 0 ≤ wr (x5 + 4) ∧ wr (x5 + 4) < G11 47 0 0 then
  if G11 44 0 (wr (x5 + 4)) = 0 then
    bI (f_Mod_vertex (G11 44 0 (wr (x5 + 1))) (G11 44 0 (wr (x5 + 2))) (G11 44 0 (wr (x5 + 3))) 0 G11) fun r14 G13 =>
    bI (f_Mod_thrown G13) fun r16 G15 =>
    if r16 = r12 then
      if r12 = 0 then
        if jCmp (G15 42 0 0) r14 = 0 then
          l_Law_law_28 (wr (x5 + 7)) G15
        else
        rI 0 G15
      else
      l_Law_law_28 (wr (x5 + 7)) G15
    else
    rI 0 G15
  else
  bI (f_Mod_vertex (G11 44 0 (wr (x5 + 1))) (G11 44 0 (wr (x5 + 2))) (G11 44 0 (wr (x5 + 3))) 1 G11) fun r18 G17 =>
  bI (f_Mod_thrown G17) fun r20 G19 =>
  if r20 = r12 then
    if r12 = 0 then
      if jCmp (G19 42 0 0) r18 = 0 then
        l_Law_law_28 (wr (x5 + 7)) G19
      else
      rI 0 G19
    else
    l_Law_law_28 (wr (x5 + 7)) G19
  else
  rI 0 G19
  else none
  else none
  else none
  else none
  else none
  else none
  else none
  else none := (run_fix _ _ _ _ _).trans rfl
set_option maxRecDepth 20000 in
theorem e_l_Law_law_1208 (x5 : Int) (G : GG) : l_Law_law_1208 x5 G =
  if 0 ≤ wr (x5 + 1) ∧ wr (x5 + 1) < G 47 0 0 then
  if 0 ≤ wr (x5 + 2) ∧ wr (x5 + 2) < G 47 0 0 then
  bI (f_Law_lost (G 44 0 (wr (x5 + 1))) (G 44 0 (wr (x5 + 2))) G) fun r2 G1 =>
  if 0 ≤ wr (x5 + 1) ∧ wr (x5 + 1) < G1 47 0 0 then
  if 0 ≤ wr (x5 + 2) ∧ wr (x5 + 2) < G1 47 0 0 then
  bI (f_Mod_lost (G1 44 0 (wr (x5 + 1))) (G1 44 0 (wr (x5 + 2))) G1) fun r4 G3 =>
  bI (f_Mod_thrown G3) fun r6 G5 =>
  if r6 = r2 then
    if r2 = 0 then
      if jCmp (G5 42 0 0) r4 = 0 then
        l_Law_law_28 (wr (x5 + 7)) G5
      else
      rI 0 G5
    else
    l_Law_law_28 (wr (x5 + 7)) G5
  else
  rI 0 G5
  else none
  else none
  else none
  else none := (run_fix _ _ _ _ _).trans rfl
set_option maxRecDepth 20000 in
theorem e_l_Law_law_1276 (x5 : Int) (G : GG) : l_Law_law_1276 x5 G =
  if 0 ≤ wr (x5 + 1) ∧ wr (x5 + 1) < G 47 0 0 then
  if 0 ≤ wr (x5 + 2) ∧ wr (x5 + 2) < G 47 0 0 then
  if 0 ≤ wr (x5 + 3) ∧ wr (x5 + 3) < G 47 0 0 then
  bI (f_Law_why (G 44 0 (wr (x5 + 1))) (G 44 0 (wr (x5 + 2))) (G 44 0 (wr (x5 + 3))) G) fun r2 G1 =>
  if 0 ≤ wr (x5 + 1) ∧ wr (x5 + 1) < G1 47 0 0 then
  if 0 ≤ wr (x5 + 2) ∧ wr (x5 + 2) < G1 47 0 0 then
  if 0 ≤ wr (x5 + 3) ∧ wr (x5 + 3) < G1 47 0 0 then
  bI (f_Mod_why (G1 44 0 (wr (x5 + 1))) (G1 44 0 (wr (x5 + 2))) (G1 44 0 (wr (x5 + 3))) G1) fun r4 G3 =>
  bI (f_Mod_thrown G3) fun r6 G5 =>
  if r6 = r2 then
    if r2 = 0 then
      if jCmp (G5 42 0 0) r4 = 0 then
        l_Law_law_28 (wr (x5 + 7)) G5
      else
      rI 0 G5
    else
    l_Law_law_28 (wr (x5 + 7)) G5
  else
  rI 0 G5
  else none
  else none
  else none
  else none
  else none
  else none := (run_fix _ _ _ _ _).trans rfl
set_option maxRecDepth 20000 in
theorem e_l_Law_law_1356 (x5 : Int) (G : GG) : l_Law_law_1356 x5 G =
  if 0 ≤ wr (x5 + 1) ∧ wr (x5 + 1) < G 47 0 0 then
  if 0 ≤ wr (x5 + 2) ∧ wr (x5 + 2) < G 47 0 0 then
  if 0 ≤ wr (x5 + 3) ∧ wr (x5 + 3) < G 47 0 0 then
  bI (f_Law_weight (G 44 0 (wr (x5 + 1))) (G 44 0 (wr (x5 + 2))) (G 44 0 (wr (x5 + 3))) G) fun r2 G1 =>
  if 0 ≤ wr (x5 + 1) ∧ wr (x5 + 1) < G1 47 0 0 then
  if 0 ≤ wr (x5 + 2) ∧ wr (x5 + 2) < G1 47 0 0 then
  if 0 ≤ wr (x5 + 3) ∧ wr (x5 + 3) < G1 47 0 0 then
  bI (f_Mod_weight (G1 44 0 (wr (x5 + 1))) (G1 44 0 (wr (x5 + 2))) (G1 44 0 (wr (x5 + 3))) G1) fun r4 G3 =>
  bI (f_Mod_thrown G3) fun r6 G5 =>
  if r6 = r2 then
    if r2 = 0 then
      if jCmp (G5 42 0 0) r4 = 0 then
        l_Law_law_28 (wr (x5 + 7)) G5
      else
      rI 0 G5
    else
    l_Law_law_28 (wr (x5 + 7)) G5
  else
  rI 0 G5
  else none
  else none
  else none
  else none
  else none
  else none := (run_fix _ _ _ _ _).trans rfl
set_option maxRecDepth 20000 in
theorem e_l_Law_law_1436 (x5 : Int) (G : GG) : l_Law_law_1436 x5 G =
  if 0 ≤ wr (x5 + 1) ∧ wr (x5 + 1) < G 47 0 0 then
  if 0 ≤ wr (x5 + 2) ∧ wr (x5 + 2) < G 47 0 0 then
  bI (f_Law_removed (G 44 0 (wr (x5 + 1))) (G 44 0 (wr (x5 + 2))) G) fun r2 G1 =>
  if 0 ≤ wr (x5 + 1) ∧ wr (x5 + 1) < G1 47 0 0 then
  if 0 ≤ wr (x5 + 2) ∧ wr (x5 + 2) < G1 47 0 0 then
  bI (f_Mod_removed (G1 44 0 (wr (x5 + 1))) (G1 44 0 (wr (x5 + 2))) G1) fun r4 G3 =>
  bI (f_Mod_thrown G3) fun r6 G5 =>
  if r6 = r2 then
    if r2 = 0 then
      if jCmp (G5 42 0 0) r4 = 0 then
        l_Law_law_28 (wr (x5 + 7)) G5
      else
      rI 0 G5
    else
    l_Law_law_28 (wr (x5 + 7)) G5
  else
  rI 0 G5
  else none
  else none
  else none
  else none := (run_fix _ _ _ _ _).trans rfl
set_option maxRecDepth 20000 in
theorem e_l_Law_law_1504 (x5 : Int) (G : GG) : l_Law_law_1504 x5 G =
  if 0 ≤ wr (x5 + 1) ∧ wr (x5 + 1) < G 47 0 0 then
  if 0 ≤ wr (x5 + 2) ∧ wr (x5 + 2) < G 47 0 0 then
  bI (f_Law_extent (G 44 0 (wr (x5 + 1))) (G 44 0 (wr (x5 + 2))) G) fun r2 G1 =>
  if 0 ≤ wr (x5 + 1) ∧ wr (x5 + 1) < G1 47 0 0 then
  if 0 ≤ wr (x5 + 2) ∧ wr (x5 + 2) < G1 47 0 0 then
  bI (f_Mod_extent (G1 44 0 (wr (x5 + 1))) (G1 44 0 (wr (x5 + 2))) G1) fun r4 G3 =>
  bI (f_Mod_thrown G3) fun r6 G5 =>
  if r6 = r2 then
    if r2 = 0 then
      if jCmp (G5 42 0 0) r4 = 0 then
        l_Law_law_28 (wr (x5 + 7)) G5
      else
      rI 0 G5
    else
    l_Law_law_28 (wr (x5 + 7)) G5
  else
  rI 0 G5
  else none
  else none
  else none
  else none := (run_fix _ _ _ _ _).trans rfl
set_option maxRecDepth 20000 in
theorem e_l_Law_law_1572 (x5 : Int) (G : GG) : l_Law_law_1572 x5 G =
  if 0 ≤ wr (x5 + 1) ∧ wr (x5 + 1) < G 47 0 0 then
  bI (f_Law_mostSimplified (G 44 0 (wr (x5 + 1))) G) fun r2 G1 =>
  if 0 ≤ wr (x5 + 1) ∧ wr (x5 + 1) < G1 47 0 0 then
  bI (f_Mod_mostSimplified (G1 44 0 (wr (x5 + 1))) G1) fun r4 G3 =>
  bI (f_Mod_thrown G3) fun r6 G5 =>
  if r6 = r2 then
    if r2 = 0 then
      if jCmp (G5 42 0 0) r4 = 0 then
        l_Law_law_28 (wr (x5 + 7)) G5
      else
      rI 0 G5
    else
    l_Law_law_28 (wr (x5 + 7)) G5
  else
  rI 0 G5
  else none
  else none := (run_fix _ _ _ _ _).trans rfl
set_option maxRecDepth 20000 in
theorem e_l_Law_law_1628 (x5 : Int) (G : GG) : l_Law_law_1628 x5 G =
  if 0 ≤ wr (x5 + 1) ∧ wr (x5 + 1) < G 47 0 0 then
  if 0 ≤ wr (x5 + 2) ∧ wr (x5 + 2) < G 47 0 0 then
  if 0 ≤ wr (x5 + 3) ∧ wr (x5 + 3) < G 47 0 0 then
  bI (f_Law_lineAt (G 44 0 (wr (x5 + 1))) (G 44 0 (wr (x5 + 2))) (G 44 0 (wr (x5 + 3))) G) fun r2 G1 =>
  if 0 ≤ wr (x5 + 1) ∧ wr (x5 + 1) < G1 47 0 0 then
  if 0 ≤ wr (x5 + 2) ∧ wr (x5 + 2) < G1 47 0 0 then
  if 0 ≤ wr (x5 + 3) ∧ wr (x5 + 3) < G1 47 0 0 then
  bI (f_Mod_lineAt (G1 44 0 (wr (x5 + 1))) (G1 44 0 (wr (x5 + 2))) (G1 44 0 (wr (x5 + 3))) G1) fun r4 G3 =>
  bI (f_Mod_thrown G3) fun r6 G5 =>
  if r6 = r2 then
    if r2 = 0 then
      if jCmp (G5 42 0 0) r4 = 0 then
        l_Law_law_28 (wr (x5 + 7)) G5
      else
      rI 0 G5
    else
    l_Law_law_28 (wr (x5 + 7)) G5
  else
  rI 0 G5
  else none
  else none
  else none
  else none
  else none
  else none := (run_fix _ _ _ _ _).trans rfl
set_option maxRecDepth 20000 in
theorem e_l_Law_law_1708 (x5 : Int) (G : GG) : l_Law_law_1708 x5 G =
  if 0 ≤ wr (x5 + 1) ∧ wr (x5 + 1) < G 47 0 0 then
  if 0 ≤ wr (x5 + 2) ∧ wr (x5 + 2) < G 47 0 0 then
  if 0 ≤ wr (x5 + 3) ∧ wr (x5 + 3) < G 47 0 0 then
  bI (f_Law_parcelAt (G 44 0 (wr (x5 + 1))) (G 44 0 (wr (x5 + 2))) (G 44 0 (wr (x5 + 3))) G) fun r2 G1 =>
  if 0 ≤ wr (x5 + 1) ∧ wr (x5 + 1) < G1 47 0 0 then
  if 0 ≤ wr (x5 + 2) ∧ wr (x5 + 2) < G1 47 0 0 then
  if 0 ≤ wr (x5 + 3) ∧ wr (x5 + 3) < G1 47 0 0 then
  bI (f_Mod_parcelAt (G1 44 0 (wr (x5 + 1))) (G1 44 0 (wr (x5 + 2))) (G1 44 0 (wr (x5 + 3))) G1) fun r4 G3 =>
  bI (f_Mod_thrown G3) fun r6 G5 =>
  if r6 = r2 then
    if r2 = 0 then
      if jCmp (G5 42 0 0) r4 = 0 then
        l_Law_law_28 (wr (x5 + 7)) G5
      else
      rI 0 G5
    else
    l_Law_law_28 (wr (x5 + 7)) G5
  else
  rI 0 G5
  else none
  else none
  else none
  else none
  else none
  else none := (run_fix _ _ _ _ _).trans rfl
set_option maxRecDepth 20000 in
theorem e_l_Law_law_1788 (x5 : Int) (G : GG) : l_Law_law_1788 x5 G =
  if 0 ≤ wr (x5 + 1) ∧ wr (x5 + 1) < G 47 0 0 then
  if 0 ≤ wr (x5 + 2) ∧ wr (x5 + 2) < G 47 0 0 then
  bI (f_Law_area (G 44 0 (wr (x5 + 1))) (G 44 0 (wr (x5 + 2))) G) fun r2 G1 =>
  if 0 ≤ wr (x5 + 1) ∧ wr (x5 + 1) < G1 47 0 0 then
  if 0 ≤ wr (x5 + 2) ∧ wr (x5 + 2) < G1 47 0 0 then
  bI (f_Mod_area (G1 44 0 (wr (x5 + 1))) (G1 44 0 (wr (x5 + 2))) G1) fun r4 G3 =>
  bI (f_Mod_thrown G3) fun r6 G5 =>
  if r6 = r2 then
    if r2 = 0 then
      if jCmp (G5 42 0 0) r4 = 0 then
        l_Law_law_28 (wr (x5 + 7)) G5
      else
      rI 0 G5
    else
    l_Law_law_28 (wr (x5 + 7)) G5
  else
  rI 0 G5
  else none
  else none
  else none
  else none := (run_fix _ _ _ _ _).trans rfl
set_option maxRecDepth 20000 in
theorem e_l_Law_law_1856 (x5 : Int) (G : GG) : l_Law_law_1856 x5 G =
  if 0 ≤ wr (x5 + 1) ∧ wr (x5 + 1) < G 47 0 0 then
  if 0 ≤ wr (x5 + 2) ∧ wr (x5 + 2) < G 47 0 0 then
  if 0 ≤ wr (x5 + 3) ∧ wr (x5 + 3) < G 47 0 0 then
  bI (f_Law_border (G 44 0 (wr (x5 + 1))) (G 44 0 (wr (x5 + 2))) (G 44 0 (wr (x5 + 3))) G) fun r2 G1 =>
  if 0 ≤ wr (x5 + 1) ∧ wr (x5 + 1) < G1 47 0 0 then
  if 0 ≤ wr (x5 + 2) ∧ wr (x5 + 2) < G1 47 0 0 then
  if 0 ≤ wr (x5 + 3) ∧ wr (x5 + 3) < G1 47 0 0 then
  bI (f_Mod_border (G1 44 0 (wr (x5 + 1))) (G1 44 0 (wr (x5 + 2))) (G1 44 0 (wr (x5 + 3))) G1) fun r4 G3 =>
  bI (f_Mod_thrown G3) fun r6 G5 =>
  if r6 = r2 then
    if r2 = 0 then
      if jCmp (G5 42 0 0) r4 = 0 then
        l_Law_law_28 (wr (x5 + 7)) G5
      else
      rI 0 G5
    else
    l_Law_law_28 (wr (x5 + 7)) G5
  else
  rI 0 G5
  else none
  else none
  else none
  else none
  else none
  else none := (run_fix _ _ _ _ _).trans rfl
set_option maxRecDepth 20000 in
theorem e_l_Law_law_1936 (x5 : Int) (G : GG) : l_Law_law_1936 x5 G =
  if 0 ≤ wr (x5 + 1) ∧ wr (x5 + 1) < G 47 0 0 then
  if 0 ≤ wr (x5 + 2) ∧ wr (x5 + 2) < G 47 0 0 then
  bI (f_Law_neighbors (G 44 0 (wr (x5 + 1))) (G 44 0 (wr (x5 + 2))) G) fun r2 G1 =>
  if 0 ≤ wr (x5 + 1) ∧ wr (x5 + 1) < G1 47 0 0 then
  if 0 ≤ wr (x5 + 2) ∧ wr (x5 + 2) < G1 47 0 0 then
  bI (f_Mod_neighbors (G1 44 0 (wr (x5 + 1))) (G1 44 0 (wr (x5 + 2))) G1) fun r4 G3 =>
  bI (f_Mod_thrown G3) fun r6 G5 =>
  if r6 = r2 then
    if r2 = 0 then
      if jCmp (G5 42 0 0) r4 = 0 then
        l_Law_law_28 (wr (x5 + 7)) G5
      else
      rI 0 G5
    else
    l_Law_law_28 (wr (x5 + 7)) G5
  else
  rI 0 G5
  else none
  else none
  else none
  else none := (run_fix _ _ _ _ _).trans rfl
set_option maxRecDepth 20000 in
theorem e_l_Law_law_2004 (x5 : Int) (G : GG) : l_Law_law_2004 x5 G =
  if 0 ≤ wr (x5 + 1) ∧ wr (x5 + 1) < G 47 0 0 then
  if 0 ≤ wr (x5 + 2) ∧ wr (x5 + 2) < G 47 0 0 then
  bI (f_Law_became (G 44 0 (wr (x5 + 1))) (G 44 0 (wr (x5 + 2))) G) fun r2 G1 =>
  if 0 ≤ wr (x5 + 1) ∧ wr (x5 + 1) < G1 47 0 0 then
  if 0 ≤ wr (x5 + 2) ∧ wr (x5 + 2) < G1 47 0 0 then
  bI (f_Mod_became (G1 44 0 (wr (x5 + 1))) (G1 44 0 (wr (x5 + 2))) G1) fun r4 G3 =>
  bI (f_Mod_thrown G3) fun r6 G5 =>
  if r6 = r2 then
    if r2 = 0 then
      if jCmp (G5 42 0 0) r4 = 0 then
        l_Law_law_28 (wr (x5 + 7)) G5
      else
      rI 0 G5
    else
    l_Law_law_28 (wr (x5 + 7)) G5
  else
  rI 0 G5
  else none
  else none
  else none
  else none := (run_fix _ _ _ _ _).trans rfl
set_option maxRecDepth 20000 in
theorem e_l_Law_law_2072 (x5 : Int) (G : GG) : l_Law_law_2072 x5 G =
  if 0 ≤ wr (x5 + 1) ∧ wr (x5 + 1) < G 47 0 0 then
  if 0 ≤ wr (x5 + 2) ∧ wr (x5 + 2) < G 47 0 0 then
  bI (f_Law_parcels (G 44 0 (wr (x5 + 1))) (G 44 0 (wr (x5 + 2))) G) fun r2 G1 =>
  if 0 ≤ wr (x5 + 1) ∧ wr (x5 + 1) < G1 47 0 0 then
  if 0 ≤ wr (x5 + 2) ∧ wr (x5 + 2) < G1 47 0 0 then
  bI (f_Mod_parcels (G1 44 0 (wr (x5 + 1))) (G1 44 0 (wr (x5 + 2))) G1) fun r4 G3 =>
  bI (f_Mod_thrown G3) fun r6 G5 =>
  if r6 = r2 then
    if r2 = 0 then
      if jCmp (G5 42 0 0) r4 = 0 then
        l_Law_law_28 (wr (x5 + 7)) G5
      else
      rI 0 G5
    else
    l_Law_law_28 (wr (x5 + 7)) G5
  else
  rI 0 G5
  else none
  else none
  else none
  else none := (run_fix _ _ _ _ _).trans rfl
set_option maxRecDepth 20000 in
theorem e_l_Law_law_2140 (x5 : Int) (G : GG) : l_Law_law_2140 x5 G =
  if 0 ≤ wr (x5 + 1) ∧ wr (x5 + 1) < G 47 0 0 then
  bI (f_Law_leftOver (G 44 0 (wr (x5 + 1))) G) fun r2 G1 =>
  if 0 ≤ wr (x5 + 1) ∧ wr (x5 + 1) < G1 47 0 0 then
  bI (f_Mod_leftOver (G1 44 0 (wr (x5 + 1))) G1) fun r4 G3 =>
  bI (f_Mod_thrown G3) fun r6 G5 =>
  if r6 = r2 then
    if r2 = 0 then
      if jCmp (G5 42 0 0) r4 = 0 then
        l_Law_law_28 (wr (x5 + 7)) G5
      else
      rI 0 G5
    else
    l_Law_law_28 (wr (x5 + 7)) G5
  else
  rI 0 G5
  else none
  else none := (run_fix _ _ _ _ _).trans rfl
set_option maxRecDepth 20000 in
theorem e_l_Law_law_2196 (x5 : Int) (G : GG) : l_Law_law_2196 x5 G =
  if 0 ≤ wr (x5 + 1) ∧ wr (x5 + 1) < G 47 0 0 then
  if 0 ≤ wr (x5 + 2) ∧ wr (x5 + 2) < G 47 0 0 then
  bI (f_Law_outline (G 44 0 (wr (x5 + 1))) (G 44 0 (wr (x5 + 2))) G) fun r2 G1 =>
  if 0 ≤ wr (x5 + 1) ∧ wr (x5 + 1) < G1 47 0 0 then
  if 0 ≤ wr (x5 + 2) ∧ wr (x5 + 2) < G1 47 0 0 then
  bI (f_Mod_outline (G1 44 0 (wr (x5 + 1))) (G1 44 0 (wr (x5 + 2))) G1) fun r4 G3 =>
  bI (f_Mod_thrown G3) fun r6 G5 =>
  if r6 = r2 then
    if r2 = 0 then
      if jCmp (G5 42 0 0) r4 = 0 then
        l_Law_law_28 (wr (x5 + 7)) G5
      else
      rI 0 G5
    else
    l_Law_law_28 (wr (x5 + 7)) G5
  else
  rI 0 G5
  else none
  else none
  else none
  else none := (run_fix _ _ _ _ _).trans rfl
set_option maxRecDepth 20000 in
theorem e_l_Law_law_2264 (x5 : Int) (G : GG) : l_Law_law_2264 x5 G =
  if 0 ≤ wr (x5 + 1) ∧ wr (x5 + 1) < G 47 0 0 then
  bI (f_Law_shown (G 44 0 (wr (x5 + 1))) G) fun r2 G1 =>
  if 0 ≤ wr (x5 + 1) ∧ wr (x5 + 1) < G1 47 0 0 then
  bI (f_Mod_shown (G1 44 0 (wr (x5 + 1))) G1) fun r4 G3 =>
  bI (f_Mod_thrown G3) fun r6 G5 =>
  if r6 = r2 then
    if r2 = 0 then
      if jCmp (G5 42 0 0) r4 = 0 then
        l_Law_law_28 (wr (x5 + 7)) G5
      else
      rI 0 G5
    else
    l_Law_law_28 (wr (x5 + 7)) G5
  else
  rI 0 G5
  else none
  else none := (run_fix _ _ _ _ _).trans rfl
set_option maxRecDepth 20000 in
theorem e_l_Law_law_2320 (x5 : Int) (G : GG) : l_Law_law_2320 x5 G =
  if 0 ≤ wr (x5 + 1) ∧ wr (x5 + 1) < G 47 0 0 then
  if 0 ≤ wr (x5 + 2) ∧ wr (x5 + 2) < G 47 0 0 then
  bI (f_Law_position (G 44 0 (wr (x5 + 1))) (G 44 0 (wr (x5 + 2))) G) fun r2 G1 =>
  if 0 ≤ wr (x5 + 1) ∧ wr (x5 + 1) < G1 47 0 0 then
  if 0 ≤ wr (x5 + 2) ∧ wr (x5 + 2) < G1 47 0 0 then
  bI (f_Mod_position (G1 44 0 (wr (x5 + 1))) (G1 44 0 (wr (x5 + 2))) G1) fun r4 G3 =>
  bI (f_Mod_thrown G3) fun r6 G5 =>
  if r6 = r2 then
    if r2 = 0 then
      if jCmp (G5 42 0 0) r4 = 0 then
        l_Law_law_28 (wr (x5 + 7)) G5
      else
      rI 0 G5
    else
    l_Law_law_28 (wr (x5 + 7)) G5
  else
  rI 0 G5
  else none
  else none
  else none
  else none := (run_fix _ _ _ _ _).trans rfl
set_option maxRecDepth 20000 in
theorem e_l_Law_law_2388 (x5 : Int) (G : GG) : l_Law_law_2388 x5 G =
  if 0 ≤ wr (x5 + 1) ∧ wr (x5 + 1) < G 47 0 0 then
  if 0 ≤ wr (x5 + 2) ∧ wr (x5 + 2) < G 47 0 0 then
  if 0 ≤ wr (x5 + 3) ∧ wr (x5 + 3) < G 47 0 0 then
  bI (f_Law_refusal (G 44 0 (wr (x5 + 1))) (G 44 0 (wr (x5 + 2))) (G 44 0 (wr (x5 + 3))) G) fun r2 G1 =>
  if 0 ≤ wr (x5 + 1) ∧ wr (x5 + 1) < G1 47 0 0 then
  if 0 ≤ wr (x5 + 2) ∧ wr (x5 + 2) < G1 47 0 0 then
  if 0 ≤ wr (x5 + 3) ∧ wr (x5 + 3) < G1 47 0 0 then
  bI (f_Mod_refusal (G1 44 0 (wr (x5 + 1))) (G1 44 0 (wr (x5 + 2))) (G1 44 0 (wr (x5 + 3))) G1) fun r4 G3 =>
  bI (f_Mod_thrown G3) fun r6 G5 =>
  if r6 = r2 then
    if r2 = 0 then
      if jCmp (G5 42 0 0) r4 = 0 then
        l_Law_law_28 (wr (x5 + 7)) G5
      else
      rI 0 G5
    else
    l_Law_law_28 (wr (x5 + 7)) G5
  else
  rI 0 G5
  else none
  else none
  else none
  else none
  else none
  else none := (run_fix _ _ _ _ _).trans rfl
set_option maxRecDepth 20000 in
theorem e_l_Law_law_2468 (x5 : Int) (G : GG) : l_Law_law_2468 x5 G =
  if 0 ≤ wr (x5 + 1) ∧ wr (x5 + 1) < G 47 0 0 then
  bI (f_Law_labels (G 44 0 (wr (x5 + 1))) G) fun r2 G1 =>
  if 0 ≤ wr (x5 + 1) ∧ wr (x5 + 1) < G1 47 0 0 then
  bI (f_Mod_labels (G1 44 0 (wr (x5 + 1))) G1) fun r4 G3 =>
  bI (f_Mod_thrown G3) fun r6 G5 =>
  if r6 = r2 then
    if r2 = 0 then
      if jCmp (G5 42 0 0) r4 = 0 then
        l_Law_law_28 (wr (x5 + 7)) G5
      else
      rI 0 G5
    else
    l_Law_law_28 (wr (x5 + 7)) G5
  else
  rI 0 G5
  else none
  else none := (run_fix _ _ _ _ _).trans rfl
set_option maxRecDepth 20000 in
theorem e_l_Law_law_2524 (x5 : Int) (G : GG) : l_Law_law_2524 x5 G =
  if 0 ≤ wr (x5 + 1) ∧ wr (x5 + 1) < G 47 0 0 then
  if 0 ≤ wr (x5 + 2) ∧ wr (x5 + 2) < G 47 0 0 then
  if 0 ≤ wr (x5 + 3) ∧ wr (x5 + 3) < G 47 0 0 then
  bI (f_Law_labelAt (G 44 0 (wr (x5 + 1))) (G 44 0 (wr (x5 + 2))) (G 44 0 (wr (x5 + 3))) G) fun r2 G1 =>
  if 0 ≤ wr (x5 + 1) ∧ wr (x5 + 1) < G1 47 0 0 then
  if 0 ≤ wr (x5 + 2) ∧ wr (x5 + 2) < G1 47 0 0 then
  if 0 ≤ wr (x5 + 3) ∧ wr (x5 + 3) < G1 47 0 0 then
  bI (f_Mod_labelAt (G1 44 0 (wr (x5 + 1))) (G1 44 0 (wr (x5 + 2))) (G1 44 0 (wr (x5 + 3))) G1) fun r4 G3 =>
  bI (f_Mod_thrown G3) fun r6 G5 =>
  if r6 = r2 then
    if r2 = 0 then
      if jCmp (G5 42 0 0) r4 = 0 then
        l_Law_law_28 (wr (x5 + 7)) G5
      else
      rI 0 G5
    else
    l_Law_law_28 (wr (x5 + 7)) G5
  else
  rI 0 G5
  else none
  else none
  else none
  else none
  else none
  else none := (run_fix _ _ _ _ _).trans rfl
set_option maxRecDepth 20000 in
theorem e_l_Law_law_2604 (x5 : Int) (G : GG) : l_Law_law_2604 x5 G =
  if 0 ≤ wr (x5 + 1) ∧ wr (x5 + 1) < G 47 0 0 then
  bI (f_Law_covered (G 44 0 (wr (x5 + 1))) G) fun r2 G1 =>
  if 0 ≤ wr (x5 + 1) ∧ wr (x5 + 1) < G1 47 0 0 then
  bI (f_Mod_covered (G1 44 0 (wr (x5 + 1))) G1) fun r4 G3 =>
  bI (f_Mod_thrown G3) fun r6 G5 =>
  if r6 = r2 then
    if r2 = 0 then
      if jCmp (G5 42 0 0) r4 = 0 then
        l_Law_law_28 (wr (x5 + 7)) G5
      else
      rI 0 G5
    else
    l_Law_law_28 (wr (x5 + 7)) G5
  else
  rI 0 G5
  else none
  else none := (run_fix _ _ _ _ _).trans rfl
set_option maxRecDepth 20000 in
theorem e_l_Law_law_2660 (x5 : Int) (G : GG) : l_Law_law_2660 x5 G =
  if 0 ≤ wr (x5 + 1) ∧ wr (x5 + 1) < G 47 0 0 then
  bI (f_Law_placedShare (G 44 0 (wr (x5 + 1))) G) fun r2 G1 =>
  if 0 ≤ wr (x5 + 1) ∧ wr (x5 + 1) < G1 47 0 0 then
  bD (f_Mod_placedShare (G1 44 0 (wr (x5 + 1))) G1) fun d4 G3 =>
  bI (f_Mod_thrown G3) fun r6 G5 =>
  if r6 = r2 then
    if r2 = 0 then
      if dCmp (dBits (G5 43 0 0)) d4 .l = 0 then
        l_Law_law_28 (wr (x5 + 7)) G5
      else
      if dCmp (dBits (G5 43 0 0)) (dBits (G5 43 0 0)) .l = 0 then
        rI 0 G5
      else
      if dCmp d4 d4 .l = 0 then
        rI 0 G5
      else
      l_Law_law_28 (wr (x5 + 7)) G5
    else
    l_Law_law_28 (wr (x5 + 7)) G5
  else
  rI 0 G5
  else none
  else none := (run_fix _ _ _ _ _).trans rfl
set_option maxRecDepth 20000 in
theorem e_l_Law_law_2737 (x5 : Int) (G : GG) : l_Law_law_2737 x5 G =
  if 0 ≤ wr (x5 + 1) ∧ wr (x5 + 1) < G 47 0 0 then
  bI (f_Law_placedOn (G 44 0 (wr (x5 + 1))) G) fun r2 G1 =>
  if 0 ≤ wr (x5 + 1) ∧ wr (x5 + 1) < G1 47 0 0 then
  bI (f_Mod_placedOn (G1 44 0 (wr (x5 + 1))) G1) fun r4 G3 =>
  bI (f_Mod_thrown G3) fun r6 G5 =>
  if r6 = r2 then
    if r2 = 0 then
      if jCmp (G5 42 0 0) r4 = 0 then
        l_Law_law_28 (wr (x5 + 7)) G5
      else
      rI 0 G5
    else
    l_Law_law_28 (wr (x5 + 7)) G5
  else
  rI 0 G5
  else none
  else none := (run_fix _ _ _ _ _).trans rfl
set_option maxRecDepth 20000 in
theorem e_l_Law_law_2793 (x5 : Int) (G : GG) : l_Law_law_2793 x5 G =
  if 0 ≤ wr (x5 + 1) ∧ wr (x5 + 1) < G 47 0 0 then
  bI (f_Law_append (iChr (G 44 0 (wr (x5 + 1)))) G) fun r2 G1 =>
  if 0 ≤ wr (x5 + 1) ∧ wr (x5 + 1) < G1 47 0 0 then
  bI (f_Mod_append (iChr (G1 44 0 (wr (x5 + 1)))) G1) fun r4 G3 =>
  bI (f_Mod_thrown G3) fun r6 G5 =>
  if r6 = r2 then
    if r2 = 0 then
      if jCmp (G5 42 0 0) r4 = 0 then
        l_Law_law_28 (wr (x5 + 7)) G5
      else
      rI 0 G5
    else
    l_Law_law_28 (wr (x5 + 7)) G5
  else
  rI 0 G5
  else none
  else none := (run_fix _ _ _ _ _).trans rfl
set_option maxRecDepth 20000 in
theorem e_l_Law_law_2851 (x5 : Int) (G : GG) : l_Law_law_2851 x5 G =
  bI (f_Law_read G) fun r2 G1 =>
  bI (f_Mod_read G1) fun r4 G3 =>
  bI (f_Mod_thrown G3) fun r6 G5 =>
  if r6 = r2 then
    if r2 = 0 then
      if jCmp (G5 42 0 0) r4 = 0 then
        l_Law_law_28 (wr (x5 + 7)) G5
      else
      rI 0 G5
    else
    l_Law_law_28 (wr (x5 + 7)) G5
  else
  rI 0 G5 := (run_fix _ _ _ _ _).trans rfl
set_option maxRecDepth 20000 in
theorem e_l_Law_law_2895 (x5 : Int) (G : GG) : l_Law_law_2895 x5 G =
  bI (f_Law_errorPosition G) fun r2 G1 =>
  bI (f_Mod_errorPosition G1) fun r4 G3 =>
  bI (f_Mod_thrown G3) fun r6 G5 =>
  if r6 = r2 then
    if r2 = 0 then
      if jCmp (G5 42 0 0) r4 = 0 then
        l_Law_law_28 (wr (x5 + 7)) G5
      else
      rI 0 G5
    else
    l_Law_law_28 (wr (x5 + 7)) G5
  else
  rI 0 G5 := (run_fix _ _ _ _ _).trans rfl
set_option maxRecDepth 20000 in
theorem e_l_Law_law_2939 (x5 : Int) (G : GG) : l_Law_law_2939 x5 G =
  if 0 ≤ wr (x5 + 1) ∧ wr (x5 + 1) < G 47 0 0 then
  if 0 ≤ wr (x5 + 2) ∧ wr (x5 + 2) < G 47 0 0 then
  if 0 ≤ wr (x5 + 3) ∧ wr (x5 + 3) < G 47 0 0 then
  bI (f_Law_describe (G 44 0 (wr (x5 + 1))) (G 44 0 (wr (x5 + 2))) (G 44 0 (wr (x5 + 3))) G) fun r2 G1 =>
  if 0 ≤ wr (x5 + 1) ∧ wr (x5 + 1) < G1 47 0 0 then
  if 0 ≤ wr (x5 + 2) ∧ wr (x5 + 2) < G1 47 0 0 then
  if 0 ≤ wr (x5 + 3) ∧ wr (x5 + 3) < G1 47 0 0 then
  bI (f_Mod_describe (G1 44 0 (wr (x5 + 1))) (G1 44 0 (wr (x5 + 2))) (G1 44 0 (wr (x5 + 3))) G1) fun r4 G3 =>
  bI (f_Mod_thrown G3) fun r6 G5 =>
  if r6 = r2 then
    if r2 = 0 then
      if jCmp (G5 42 0 0) r4 = 0 then
        l_Law_law_28 (wr (x5 + 7)) G5
      else
      rI 0 G5
    else
    l_Law_law_28 (wr (x5 + 7)) G5
  else
  rI 0 G5
  else none
  else none
  else none
  else none
  else none
  else none := (run_fix _ _ _ _ _).trans rfl
set_option maxRecDepth 20000 in
theorem e_l_Law_law_3019 (x5 : Int) (G : GG) : l_Law_law_3019 x5 G =
  bI (f_Law_undo G) fun r2 G1 =>
  bI (f_Mod_undo G1) fun r4 G3 =>
  bI (f_Mod_thrown G3) fun r6 G5 =>
  if r6 = r2 then
    if r2 = 0 then
      if jCmp (G5 42 0 0) r4 = 0 then
        l_Law_law_28 (wr (x5 + 7)) G5
      else
      rI 0 G5
    else
    l_Law_law_28 (wr (x5 + 7)) G5
  else
  rI 0 G5 := (run_fix _ _ _ _ _).trans rfl
set_option maxRecDepth 20000 in
theorem e_l_Law_law_3063 (x5 : Int) (G : GG) : l_Law_law_3063 x5 G =
  bI (f_Map_save G) fun r2 G1 =>
  bI (f_Mod_save G1) fun r4 G3 =>
  if r2 = r4 then
    l_Law_law_28 (wr (x5 + 7)) G3
  else
  rI 0 G3 := (run_fix _ _ _ _ _).trans rfl
set_option maxRecDepth 20000 in
theorem e_l_Law_law_3076 (x5 : Int) (G : GG) : l_Law_law_3076 x5 G =
  bI (f_Law_restore G) fun r2 G1 =>
  bI (f_Mod_restore G1) fun r4 G3 =>
  bI (f_Mod_thrown G3) fun r6 G5 =>
  if r6 = r2 then
    if r2 = 0 then
      if jCmp (G5 42 0 0) r4 = 0 then
        l_Law_law_28 (wr (x5 + 7)) G5
      else
      rI 0 G5
    else
    l_Law_law_28 (wr (x5 + 7)) G5
  else
  rI 0 G5 := (run_fix _ _ _ _ _).trans rfl
set_option maxRecDepth 20000 in
theorem e_f_Law_restore (G : GG) : f_Law_restore  G =
  contI (f_Map_restore G) (fun e3 G4 =>
    if e3 = 1 then
      rI 1 G4
    else
    rX e3 G4) fun r2 G1 =>
  rI 0 (up G1 42 0 0 r2) := (run_fix _ _ _ _ _).trans rfl
set_option maxRecDepth 20000 in
theorem e_f_Map_save (G : GG) : f_Map_save  G =
  bV (f_She_copyFrom 2 0 G) fun G1 =>
  rI ((up G1 0 0 7 1) 2 0 2) (up G1 0 0 7 1) := (run_fix _ _ _ _ _).trans rfl
set_option maxRecDepth 20000 in
theorem e_f_Law_undo (G : GG) : f_Law_undo  G =
  contI (f_Map_undo G) (fun e3 G4 =>
    if e3 = 5 then
      rI 1 G4
    else
    rX e3 G4) fun r2 G1 =>
  rI 0 (up G1 42 0 0 r2) := (run_fix _ _ _ _ _).trans rfl
set_option maxRecDepth 20000 in
theorem e_f_Law_describe (x1 : Int) (x2 : Int) (x3 : Int) (G : GG) : f_Law_describe x1 x2 x3 G =
  contI (f_Map_describe x1 x2 x3 G) (fun e3 G4 =>
    if e3 = 0 then
      rI 1 G4
    else
    if e3 = 2 then
      rI 2 G4
    else
    if e3 = 5 then
      rI 3 G4
    else
    rX e3 G4) fun r2 G1 =>
  rI 0 (up G1 42 0 0 r2) := (run_fix _ _ _ _ _).trans rfl
set_option maxRecDepth 20000 in
theorem e_f_Law_errorPosition (G : GG) : f_Law_errorPosition  G =
  contI (f_Map_errorPosition G) (fun e3 G4 =>
    if e3 = 5 then
      rI 1 G4
    else
    rX e3 G4) fun r2 G1 =>
  rI 0 (up G1 42 0 0 r2) := (run_fix _ _ _ _ _).trans rfl
set_option maxRecDepth 20000 in
theorem e_f_Law_read (G : GG) : f_Law_read  G =
  contI (f_Map_read G) (fun e3 G4 =>
    if e3 = 0 then
      rI 1 G4
    else
    if e3 = 4 then
      rI 2 G4
    else
    if e3 = 1 then
      rI 3 G4
    else
    rX e3 G4) fun r2 G1 =>
  rI 0 (up G1 42 0 0 r2) := (run_fix _ _ _ _ _).trans rfl
set_option maxRecDepth 20000 in
theorem e_f_Law_append (x1 : Int) (G : GG) : f_Law_append x1 G =
  contI (f_Map_append x1 G) (fun e3 G4 =>
    if e3 = 0 then
      rI 1 G4
    else
    if e3 = 1 then
      rI 2 G4
    else
    rX e3 G4) fun r2 G1 =>
  rI 0 (up G1 42 0 0 r2) := (run_fix _ _ _ _ _).trans rfl
set_option maxRecDepth 20000 in
theorem e_f_Law_placedOn (x1 : Int) (G : GG) : f_Law_placedOn x1 G =
  contI (f_Map_placedOn x1 G) (fun e3 G4 =>
    if e3 = 2 then
      rI 1 G4
    else
    rX e3 G4) fun r2 G1 =>
  rI 0 (up G1 42 0 0 r2) := (run_fix _ _ _ _ _).trans rfl
set_option maxRecDepth 20000 in
theorem e_f_Law_placedShare (x1 : Int) (G : GG) : f_Law_placedShare x1 G =
  contD (f_Map_placedShare x1 G) (fun e3 G4 =>
    if e3 = 0 then
      rI 1 G4
    else
    if e3 = 3 then
      rI 2 G4
    else
    rX e3 G4) fun d2 G1 =>
  rI 0 (up G1 43 0 0 (dInt d2)) := (run_fix _ _ _ _ _).trans rfl
set_option maxRecDepth 20000 in
theorem e_f_Law_covered (x1 : Int) (G : GG) : f_Law_covered x1 G =
  contI (f_Map_covered x1 G) (fun e3 G4 =>
    if e3 = 0 then
      rI 1 G4
    else
    rX e3 G4) fun r2 G1 =>
  rI 0 (up G1 42 0 0 r2) := (run_fix _ _ _ _ _).trans rfl
set_option maxRecDepth 20000 in
theorem e_f_Law_labelAt (x1 : Int) (x2 : Int) (x3 : Int) (G : GG) : f_Law_labelAt x1 x2 x3 G =
  contI (f_Map_labelAt x1 x2 x3 G) (fun e3 G4 =>
    if e3 = 0 then
      rI 1 G4
    else
    rX e3 G4) fun r2 G1 =>
  rI 0 (up G1 42 0 0 r2) := (run_fix _ _ _ _ _).trans rfl
set_option maxRecDepth 20000 in
theorem e_f_Law_labels (x1 : Int) (G : GG) : f_Law_labels x1 G =
  contI (f_Map_labels x1 G) (fun e3 G4 =>
    if e3 = 0 then
      rI 1 G4
    else
    rX e3 G4) fun r2 G1 =>
  rI 0 (up G1 42 0 0 r2) := (run_fix _ _ _ _ _).trans rfl
set_option maxRecDepth 20000 in
theorem e_f_Law_refusal (x1 : Int) (x2 : Int) (x3 : Int) (G : GG) : f_Law_refusal x1 x2 x3 G =
  contI (f_Map_refusal x1 x2 x3 G) (fun e3 G4 =>
    if e3 = 0 then
      rI 1 G4
    else
    if e3 = 2 then
      rI 2 G4
    else
    if e3 = 1 then
      rI 3 G4
    else
    rX e3 G4) fun r2 G1 =>
  rI 0 (up G1 42 0 0 r2) := (run_fix _ _ _ _ _).trans rfl
set_option maxRecDepth 20000 in
theorem e_f_Law_position (x1 : Int) (x2 : Int) (G : GG) : f_Law_position x1 x2 G =
  contI (f_Map_position x1 x2 G) (fun e3 G4 =>
    if e3 = 0 then
      rI 1 G4
    else
    if e3 = 2 then
      rI 2 G4
    else
    rX e3 G4) fun r2 G1 =>
  rI 0 (up G1 42 0 0 r2) := (run_fix _ _ _ _ _).trans rfl
set_option maxRecDepth 20000 in
theorem e_f_Law_shown (x1 : Int) (G : GG) : f_Law_shown x1 G =
  contI (f_Map_shown x1 G) (fun e3 G4 =>
    if e3 = 0 then
      rI 1 G4
    else
    rX e3 G4) fun r2 G1 =>
  rI 0 (up G1 42 0 0 r2) := (run_fix _ _ _ _ _).trans rfl
set_option maxRecDepth 20000 in
theorem e_f_Law_outline (x1 : Int) (x2 : Int) (G : GG) : f_Law_outline x1 x2 G =
  contI (f_Map_outline x1 x2 G) (fun e3 G4 =>
    if e3 = 0 then
      rI 1 G4
    else
    rX e3 G4) fun r2 G1 =>
  rI 0 (up G1 42 0 0 r2) := (run_fix _ _ _ _ _).trans rfl
set_option maxRecDepth 20000 in
theorem e_f_Law_leftOver (x1 : Int) (G : GG) : f_Law_leftOver x1 G =
  contI (f_Map_leftOver x1 G) (fun e3 G4 =>
    if e3 = 0 then
      rI 1 G4
    else
    rX e3 G4) fun r2 G1 =>
  rI 0 (up G1 42 0 0 r2) := (run_fix _ _ _ _ _).trans rfl
set_option maxRecDepth 20000 in
theorem e_f_Law_parcels (x1 : Int) (x2 : Int) (G : GG) : f_Law_parcels x1 x2 G =
  contI (f_Map_parcels x1 x2 G) (fun e3 G4 =>
    if e3 = 0 then
      rI 1 G4
    else
    rX e3 G4) fun r2 G1 =>
  rI 0 (up G1 42 0 0 r2) := (run_fix _ _ _ _ _).trans rfl
set_option maxRecDepth 20000 in
theorem e_f_Law_became (x1 : Int) (x2 : Int) (G : GG) : f_Law_became x1 x2 G =
  contI (f_Map_became x1 x2 G) (fun e3 G4 =>
    if e3 = 0 then
      rI 1 G4
    else
    if e3 = 2 then
      rI 2 G4
    else
    if e3 = 5 then
      rI 3 G4
    else
    rX e3 G4) fun r2 G1 =>
  rI 0 (up G1 42 0 0 r2) := (run_fix _ _ _ _ _).trans rfl
set_option maxRecDepth 20000 in
theorem e_f_Law_neighbors (x1 : Int) (x2 : Int) (G : GG) : f_Law_neighbors x1 x2 G =
  contI (f_Map_neighbors x1 x2 G) (fun e3 G4 =>
    if e3 = 0 then
      rI 1 G4
    else
    if e3 = 2 then
      rI 2 G4
    else
    rX e3 G4) fun r2 G1 =>
  rI 0 (up G1 42 0 0 r2) := (run_fix _ _ _ _ _).trans rfl
set_option maxRecDepth 20000 in
theorem e_f_Law_border (x1 : Int) (x2 : Int) (x3 : Int) (G : GG) : f_Law_border x1 x2 x3 G =
  contI (f_Map_border x1 x2 x3 G) (fun e3 G4 =>
    if e3 = 0 then
      rI 1 G4
    else
    if e3 = 2 then
      rI 2 G4
    else
    rX e3 G4) fun r2 G1 =>
  rI 0 (up G1 42 0 0 r2) := (run_fix _ _ _ _ _).trans rfl
set_option maxRecDepth 20000 in
theorem e_f_Law_area (x1 : Int) (x2 : Int) (G : GG) : f_Law_area x1 x2 G =
  contI (f_Map_area x1 x2 G) (fun e3 G4 =>
    if e3 = 0 then
      rI 1 G4
    else
    if e3 = 2 then
      rI 2 G4
    else
    rX e3 G4) fun r2 G1 =>
  rI 0 (up G1 42 0 0 r2) := (run_fix _ _ _ _ _).trans rfl
set_option maxRecDepth 20000 in
theorem e_f_Law_parcelAt (x1 : Int) (x2 : Int) (x3 : Int) (G : GG) : f_Law_parcelAt x1 x2 x3 G =
  contI (f_Map_parcelAt x1 x2 x3 G) (fun e3 G4 =>
    if e3 = 0 then
      rI 1 G4
    else
    rX e3 G4) fun r2 G1 =>
  rI 0 (up G1 42 0 0 r2) := (run_fix _ _ _ _ _).trans rfl
set_option maxRecDepth 20000 in
theorem e_f_Law_lineAt (x1 : Int) (x2 : Int) (x3 : Int) (G : GG) : f_Law_lineAt x1 x2 x3 G =
  contI (f_Map_lineAt x1 x2 x3 G) (fun e3 G4 =>
    if e3 = 0 then
      rI 1 G4
    else
    rX e3 G4) fun r2 G1 =>
  rI 0 (up G1 42 0 0 r2) := (run_fix _ _ _ _ _).trans rfl
set_option maxRecDepth 20000 in
theorem e_f_Law_mostSimplified (x1 : Int) (G : GG) : f_Law_mostSimplified x1 G =
  contI (f_Map_mostSimplified x1 G) (fun e3 G4 =>
    if e3 = 0 then
      rI 1 G4
    else
    if e3 = 5 then
      rI 2 G4
    else
    rX e3 G4) fun r2 G1 =>
  rI 0 (up G1 42 0 0 r2) := (run_fix _ _ _ _ _).trans rfl
set_option maxRecDepth 20000 in
theorem e_f_Law_extent (x1 : Int) (x2 : Int) (G : GG) : f_Law_extent x1 x2 G =
  contI (f_Map_extent x1 x2 G) (fun e3 G4 =>
    if e3 = 0 then
      rI 1 G4
    else
    if e3 = 2 then
      rI 2 G4
    else
    rX e3 G4) fun r2 G1 =>
  rI 0 (up G1 42 0 0 r2) := (run_fix _ _ _ _ _).trans rfl
set_option maxRecDepth 20000 in
theorem e_f_Law_removed (x1 : Int) (x2 : Int) (G : GG) : f_Law_removed x1 x2 G =
  contI (f_Map_removed x1 x2 G) (fun e3 G4 =>
    if e3 = 0 then
      rI 1 G4
    else
    rX e3 G4) fun r2 G1 =>
  rI 0 (up G1 42 0 0 r2) := (run_fix _ _ _ _ _).trans rfl
set_option maxRecDepth 20000 in
theorem e_f_Law_weight (x1 : Int) (x2 : Int) (x3 : Int) (G : GG) : f_Law_weight x1 x2 x3 G =
  contI (f_Map_weight x1 x2 x3 G) (fun e3 G4 =>
    if e3 = 0 then
      rI 1 G4
    else
    if e3 = 2 then
      rI 2 G4
    else
    rX e3 G4) fun r2 G1 =>
  rI 0 (up G1 42 0 0 r2) := (run_fix _ _ _ _ _).trans rfl
set_option maxRecDepth 20000 in
theorem e_f_Law_why (x1 : Int) (x2 : Int) (x3 : Int) (G : GG) : f_Law_why x1 x2 x3 G =
  contI (f_Map_why x1 x2 x3 G) (fun e3 G4 =>
    if e3 = 0 then
      rI 1 G4
    else
    if e3 = 2 then
      rI 2 G4
    else
    rX e3 G4) fun r2 G1 =>
  rI 0 (up G1 42 0 0 r2) := (run_fix _ _ _ _ _).trans rfl
set_option maxRecDepth 20000 in
theorem e_f_Law_lost (x1 : Int) (x2 : Int) (G : GG) : f_Law_lost x1 x2 G =
  contI (f_Map_lost x1 x2 G) (fun e3 G4 =>
    if e3 = 2 then
      rI 1 G4
    else
    rX e3 G4) fun r2 G1 =>
  rI 0 (up G1 42 0 0 r2) := (run_fix _ _ _ _ _).trans rfl
set_option maxRecDepth 20000 in
theorem e_f_Law_vertex (x1 : Int) (x2 : Int) (x3 : Int) (x4 : Int) (G : GG) : f_Law_vertex x1 x2 x3 x4 G =
  contI (f_Map_vertex x1 x2 x3 x4 G) (fun e3 G4 =>
    if e3 = 0 then
      rI 1 G4
    else
    if e3 = 2 then
      rI 2 G4
    else
    rX e3 G4) fun r2 G1 =>
  rI 0 (up G1 42 0 0 r2) := (run_fix _ _ _ _ _).trans rfl
set_option maxRecDepth 20000 in
theorem e_f_Law_vertices (x1 : Int) (x2 : Int) (G : GG) : f_Law_vertices x1 x2 G =
  contI (f_Map_vertices x1 x2 G) (fun e3 G4 =>
    if e3 = 0 then
      rI 1 G4
    else
    if e3 = 2 then
      rI 2 G4
    else
    rX e3 G4) fun r2 G1 =>
  rI 0 (up G1 42 0 0 r2) := (run_fix _ _ _ _ _).trans rfl
set_option maxRecDepth 20000 in
theorem e_f_Law_point (x1 : Int) (x2 : Int) (G : GG) : f_Law_point x1 x2 G =
  contI (f_Map_point x1 x2 G) (fun e3 G4 =>
    if e3 = 2 then
      rI 1 G4
    else
    if e3 = 0 then
      rI 2 G4
    else
    rX e3 G4) fun r2 G1 =>
  rI 0 (up G1 42 0 0 r2) := (run_fix _ _ _ _ _).trans rfl
set_option maxRecDepth 20000 in
theorem e_f_Law_count (x1 : Int) (G : GG) : f_Law_count x1 G =
  contI (f_Map_count x1 G) (fun e3 G4 =>
    if e3 = 0 then
      rI 1 G4
    else
    rX e3 G4) fun r2 G1 =>
  rI 0 (up G1 42 0 0 r2) := (run_fix _ _ _ _ _).trans rfl
set_option maxRecDepth 20000 in
theorem e_f_Law_setting (x1 : Int) (x2 : Int) (G : GG) : f_Law_setting x1 x2 G =
  contI (f_Map_setting x1 x2 G) (fun e3 G4 =>
    if e3 = 0 then
      rI 1 G4
    else
    rX e3 G4) fun r2 G1 =>
  rI 0 (up G1 42 0 0 r2) := (run_fix _ _ _ _ _).trans rfl
set_option maxRecDepth 20000 in
theorem e_f_Law_set (x1 : Int) (x2 : Int) (x3 : Int) (G : GG) : f_Law_set x1 x2 x3 G =
  contI (f_Map_set x1 x2 x3 G) (fun e3 G4 =>
    if e3 = 0 then
      rI 1 G4
    else
    if e3 = 1 then
      rI 2 G4
    else
    rX e3 G4) fun r2 G1 =>
  rI 0 (up G1 42 0 0 r2) := (run_fix _ _ _ _ _).trans rfl
set_option maxRecDepth 20000 in
theorem e_f_Map_setStrict (x1 : Int) (G : GG) : f_Map_setStrict x1 G =
  bV (f_Map_beginChange G) fun G1 =>
  if 0 ≤ x1 ∧ x1 ≤ 1 then
  if 0 ≤ G1 1 0 5 ∧ G1 1 0 5 ≤ 1 then
  rI (G1 1 0 5) (up G1 1 0 5 x1)
  else none
  else none := (run_fix _ _ _ _ _).trans rfl
set_option maxRecDepth 20000 in
theorem e_f_Law_setClass (x1 : Int) (x2 : Int) (G : GG) : f_Law_setClass x1 x2 G =
  contI (f_Map_setClass x1 x2 G) (fun e3 G4 =>
    if e3 = 2 then
      rI 1 G4
    else
    if e3 = 0 then
      rI 2 G4
    else
    rX e3 G4) fun r2 G1 =>
  rI 0 (up G1 42 0 0 r2) := (run_fix _ _ _ _ _).trans rfl
set_option maxRecDepth 20000 in
theorem e_f_Law_paint (x1 : Int) (x2 : Int) (x3 : Int) (x4 : Int) (x5 : Int) (G : GG) : f_Law_paint x1 x2 x3 x4 x5 G =
  contI (f_Map_paint x1 x2 x3 x4 x5 G) (fun e3 G4 =>
    if e3 = 0 then
      rI 1 G4
    else
    rX e3 G4) fun r2 G1 =>
  rI 0 (up G1 42 0 0 r2) := (run_fix _ _ _ _ _).trans rfl
set_option maxRecDepth 20000 in
theorem e_f_Law_setCorner (x1 : Int) (x2 : Int) (G : GG) : f_Law_setCorner x1 x2 G =
  contI (f_Map_setCorner x1 x2 G) (fun e3 G4 =>
    if e3 = 2 then
      rI 1 G4
    else
    if e3 = 0 then
      rI 2 G4
    else
    rX e3 G4) fun r2 G1 =>
  rI 0 (up G1 42 0 0 r2) := (run_fix _ _ _ _ _).trans rfl
set_option maxRecDepth 20000 in
theorem e_f_Law_removePoint (x1 : Int) (G : GG) : f_Law_removePoint x1 G =
  contI (f_Map_removePoint x1 G) (fun e3 G4 =>
    if e3 = 2 then
      rI 1 G4
    else
    rX e3 G4) fun r2 G1 =>
  rI 0 (up G1 42 0 0 r2) := (run_fix _ _ _ _ _).trans rfl
set_option maxRecDepth 20000 in
theorem e_f_Law_removeLine (x1 : Int) (G : GG) : f_Law_removeLine x1 G =
  contI (f_Map_removeLine x1 G) (fun e3 G4 =>
    if e3 = 2 then
      rI 1 G4
    else
    rX e3 G4) fun r2 G1 =>
  rI 0 (up G1 42 0 0 r2) := (run_fix _ _ _ _ _).trans rfl
set_option maxRecDepth 20000 in
theorem e_f_Law_addPoint (x1 : Int) (x2 : Int) (x3 : Int) (x4 : Int) (x5 : Int) (x6 : Int) (G : GG) : f_Law_addPoint x1 x2 x3 x4 x5 x6 G =
  contI (f_Map_addPoint x1 x2 x3 x4 x5 x6 G) (fun e3 G4 =>
    if e3 = 0 then
      rI 1 G4
    else
    if e3 = 4 then
      rI 2 G4
    else
    if e3 = 1 then
      rI 3 G4
    else
    rX e3 G4) fun r2 G1 =>
  rI 0 (up G1 42 0 0 r2) := (run_fix _ _ _ _ _).trans rfl
set_option maxRecDepth 20000 in
theorem e_f_Map_clear (G : GG) : f_Map_clear  G =
  bV (f_She_reset 0 G) fun G1 =>
  bV (f_His_forget G1) fun G2 =>
  bV (f_Lev_spoil G2) fun G3 =>
  rI (G 2 0 2) G3 := (run_fix _ _ _ _ _).trans rfl
set_option maxRecDepth 20000 in
theorem e_f_Map_restore (G : GG) : f_Map_restore  G =
  if G 0 0 7 = 0 then
    rX 1 (bump G)
  else
  bV (f_She_copyFrom 0 2 G) fun G1 =>
  bV (f_His_forget G1) fun G2 =>
  bV (f_Lev_spoil G2) fun G3 =>
  rI (G3 2 0 2) G3 := (run_fix _ _ _ _ _).trans rfl
set_option maxRecDepth 20000 in
theorem e_f_Map_undo (G : GG) : f_Map_undo  G =
  if G 13 0 2 = 0 then
    rX 5 (bump G)
  else
  bV (f_His_takeBack 0 G) fun G1 =>
  bV (f_Lev_spoil G1) fun G2 =>
  rI (G2 13 0 2) G2 := (run_fix _ _ _ _ _).trans rfl
set_option maxRecDepth 20000 in
theorem e_f_Map_describe (x1 : Int) (x2 : Int) (x3 : Int) (G : GG) : f_Map_describe x1 x2 x3 G =
  bV (f_Map_requireLevel x1 G) fun G1 =>
  bV (f_Map_requireLine x2 G1) fun G2 =>
  bR 2 (f_Lev_linesOf x1 G2) fun i4 G3 =>
  bI (f_Lin_write i4 x2 G3) fun r6 G5 =>
  if x3 = (-1) then
    rI r6 G5
  else
  if x3 < 0 then
    rX 5 (bump G5)
  else
  if x3 < r6 then
    if 0 ≤ x3 ∧ x3 < 61 then
    rI (G5 24 0 x3) G5
    else none
  else
  rX 5 (bump G5) := (run_fix _ _ _ _ _).trans rfl
set_option maxRecDepth 20000 in
theorem e_f_Map_errorPosition (G : GG) : f_Map_errorPosition  G =
  if G 0 0 8 = (-1) then
    rX 5 (bump G)
  else
  rI (G 0 0 8) G := (run_fix _ _ _ _ _).trans rfl
set_option maxRecDepth 20000 in
theorem e_f_Map_read (G : GG) : f_Map_read  G =
  bI (f_Scr_countEntries G) fun r2 G1 =>
  if r2 = (-1) then
    rX 0 (bump (up (up G1 0 0 8 (G1 21 0 2)) 21 0 1 0))
  else
  bV (f_She_copyFrom 1 0 G1) fun G3 =>
  bI (f_She_makeEntries 1 r2 G3) fun r5 G4 =>
  if r5 = 1 then
    rX 4 (bump (up G4 21 0 1 0))
  else
  if r5 = 2 then
    rX 1 (bump (up G4 21 0 1 0))
  else
  bV (f_Map_beginChange (up G4 21 0 1 0)) fun G6 =>
  bV (f_She_copyFrom 0 1 G6) fun G7 =>
  rI r2 G7 := (run_fix _ _ _ _ _).trans rfl
set_option maxRecDepth 20000 in
theorem e_f_Map_append (x1 : Int) (G : GG) : f_Map_append x1 G =
  if x1 < 32 then
    rX 0 (bump G)
  else
  if 126 < x1 then
    rX 0 (bump G)
  else
  if G 21 0 1 < 60 then
    bI (f_Scr_take x1 G) fun r2 G1 =>
    rI r2 G1
  else
  rX 1 (bump G) := (run_fix _ _ _ _ _).trans rfl
set_option maxRecDepth 20000 in
theorem e_f_Map_placedOn (x1 : Int) (G : GG) : f_Map_placedOn x1 G =
  bV (f_Map_requirePoint x1 G) fun G1 =>
  l_Map_placedOn_9 x1 0 0 G1 := (run_fix _ _ _ _ _).trans rfl
set_option maxRecDepth 20000 in
theorem e_l_Map_placedOn_9 (x1 : Int) (x2 : Int) (x3 : Int) (G : GG) : l_Map_placedOn_9 x1 x2 x3 G =
  if x3 < 5 then
    bR 19 (f_Lev_labelsOf x3 G) fun i2 G1 =>
    if 0 ≤ x1 ∧ x1 < 12 then
    if G1 20 i2 x1 = (-1) then
      l_Map_placedOn_9 x1 x2 (wr (x3 + 1)) G1
    else
    l_Map_placedOn_9 x1 (bOr x2 (bShl 1 x3)) (wr (x3 + 1)) G1
    else none
  else
  rI x2 G := (run_fix _ _ _ _ _).trans rfl
set_option maxRecDepth 20000 in
theorem e_f_Map_placedShare (x1 : Int) (G : GG) : f_Map_placedShare x1 G =
  bV (f_Map_requireLevel x1 G) fun G1 =>
  bI (f_Map_shown x1 G1) fun r3 G2 =>
  bI (f_Itg_bitCount r3 G2) fun r5 G4 =>
  if r5 = 0 then
    rX 3 (bump G4)
  else
  bR 19 (f_Lev_labelsOf x1 G4) fun i7 G6 =>
  bI (f_Lab_countPlaced i7 G6) fun r9 G8 =>
  if FP.ddiv (dOf r9) (dOf r5) &&& 0x7fffffffffffffff ≤ 0x7ff0000000000000 then
  rD (FP.ddiv (dOf r9) (dOf r5)) G8
  else none := (run_fix _ _ _ _ _).trans rfl
set_option maxRecDepth 20000 in
theorem e_f_Map_covered (x1 : Int) (G : GG) : f_Map_covered x1 G =
  bV (f_Map_requireLevel x1 G) fun G1 =>
  bR 19 (f_Lev_labelsOf x1 G1) fun i3 G2 =>
  bI (f_Lab_coveredByAll i3 G2) fun r5 G4 =>
  rI r5 G4 := (run_fix _ _ _ _ _).trans rfl
set_option maxRecDepth 20000 in
theorem e_f_Map_labelAt (x1 : Int) (x2 : Int) (x3 : Int) (G : GG) : f_Map_labelAt x1 x2 x3 G =
  bV (f_Map_requireLevel x1 G) fun G1 =>
  bV (f_Map_requirePosition x2 x3 G1) fun G2 =>
  bR 19 (f_Lev_labelsOf x1 G2) fun i4 G3 =>
  bI (f_Lab_labelOver i4 x2 x3 G3) fun r6 G5 =>
  rI r6 G5 := (run_fix _ _ _ _ _).trans rfl
set_option maxRecDepth 20000 in
theorem e_f_Map_labels (x1 : Int) (G : GG) : f_Map_labels x1 G =
  bV (f_Map_requireLevel x1 G) fun G1 =>
  bR 19 (f_Lev_labelsOf x1 G1) fun i3 G2 =>
  bI (f_Lab_countPlaced i3 G2) fun r5 G4 =>
  rI r5 G4 := (run_fix _ _ _ _ _).trans rfl
set_option maxRecDepth 20000 in
theorem e_f_Map_refusal (x1 : Int) (x2 : Int) (x3 : Int) (G : GG) : f_Map_refusal x1 x2 x3 G =
  bV (f_Map_requireLevel x1 G) fun G1 =>
  bI (f_Map_isWithin x3 0 3 G1) fun r3 G2 =>
  if r3 = 0 then
    rX 0 (bump G2)
  else
  bV (f_Map_requirePoint x2 G2) fun G4 =>
  bI (f_Map_isShown x1 x2 G4) fun r6 G5 =>
  if r6 = 0 then
    rX 1 (bump G5)
  else
  bR 19 (f_Lev_labelsOf x1 G5) fun i8 G7 =>
  bI (f_Lab_reasonAgainst i8 x2 x3 G7) fun r10 G9 =>
  rI r10 G9 := (run_fix _ _ _ _ _).trans rfl
set_option maxRecDepth 20000 in
theorem e_f_Map_position (x1 : Int) (x2 : Int) (G : GG) : f_Map_position x1 x2 G =
  bV (f_Map_requireLevel x1 G) fun G1 =>
  bV (f_Map_requirePoint x2 G1) fun G2 =>
  bR 19 (f_Lev_labelsOf x1 G2) fun i4 G3 =>
  if 0 ≤ x2 ∧ x2 < 12 then
  rI (G3 20 i4 x2) G3
  else none := (run_fix _ _ _ _ _).trans rfl
set_option maxRecDepth 20000 in
theorem e_f_Map_shown (x1 : Int) (G : GG) : f_Map_shown x1 G =
  bV (f_Map_requireLevel x1 G) fun G1 =>
  l_Map_shown_8 x1 0 0 G1 := (run_fix _ _ _ _ _).trans rfl
set_option maxRecDepth 20000 in
theorem e_l_Map_shown_8 (x1 : Int) (x2 : Int) (x3 : Int) (G : GG) : l_Map_shown_8 x1 x2 x3 G =
  if x3 < G 5 0 1 then
    bI (f_Map_isShown x1 x3 G) fun r2 G1 =>
    if r2 = 0 then
      l_Map_shown_8 x1 x2 (wr (x3 + 1)) G1
    else
    l_Map_shown_8 x1 (bOr x2 (bShl 1 x3)) (wr (x3 + 1)) G1
  else
  rI x2 G := (run_fix _ _ _ _ _).trans rfl
set_option maxRecDepth 20000 in
theorem e_f_Map_outline (x1 : Int) (x2 : Int) (G : GG) : f_Map_outline x1 x2 G =
  bV (f_Map_requireLevel x1 G) fun G1 =>
  bI (f_Map_isWithin x2 0 3 G1) fun r3 G2 =>
  if r3 = 0 then
    rX 0 (bump G2)
  else
  bR 7 (f_Lev_parcelsOf x1 G2) fun i5 G4 =>
  bI (f_Par_outlineOf i5 x2 0 G4) fun r7 G6 =>
  rI r7 G6 := (run_fix _ _ _ _ _).trans rfl
set_option maxRecDepth 20000 in
theorem e_f_Map_leftOver (x1 : Int) (G : GG) : f_Map_leftOver x1 G =
  bV (f_Map_requireLevel x1 G) fun G1 =>
  bR 7 (f_Lev_parcelsOf x1 G1) fun i3 G2 =>
  bI (f_She_settingOf 0 x1 1 G2) fun r5 G4 =>
  bI (f_Par_countSmall i3 r5 G4) fun r7 G6 =>
  rI r7 G6 := (run_fix _ _ _ _ _).trans rfl
set_option maxRecDepth 20000 in
theorem e_f_Map_parcels (x1 : Int) (x2 : Int) (G : GG) : f_Map_parcels x1 x2 G =
  bV (f_Map_requireLevel x1 G) fun G1 =>
  bI (f_Map_isWithin x2 (-1) 3 G1) fun r3 G2 =>
  if r3 = 0 then
    rX 0 (bump G2)
  else
  bR 7 (f_Lev_parcelsOf x1 G2) fun i5 G4 =>
  bI (f_Par_countOf i5 x2 0 G4) fun r7 G6 =>
  rI r7 G6 := (run_fix _ _ _ _ _).trans rfl
set_option maxRecDepth 20000 in
theorem e_f_Map_became (x1 : Int) (x2 : Int) (G : GG) : f_Map_became x1 x2 G =
  bV (f_Map_requireLevel x1 G) fun G1 =>
  bV (f_Map_requireParcel x2 G1) fun G2 =>
  bI (f_Par_firstFieldOf 0 x2 G2) fun r4 G3 =>
  if r4 = (-1) then
    rX 5 (bump G3)
  else
  bR 7 (f_Lev_parcelsOf x1 G3) fun i6 G5 =>
  if 0 ≤ r4 ∧ r4 < 64 then
  rI (G5 8 i6 r4) G5
  else none := (run_fix _ _ _ _ _).trans rfl
set_option maxRecDepth 20000 in
theorem e_f_Map_neighbors (x1 : Int) (x2 : Int) (G : GG) : f_Map_neighbors x1 x2 G =
  bV (f_Map_requireLevel x1 G) fun G1 =>
  bV (f_Map_requireParcel x2 G1) fun G2 =>
  bR 7 (f_Lev_parcelsOf x1 G2) fun i4 G3 =>
  bV (f_Par_measureBorders i4 x2 G3) fun G5 =>
  l_Map_neighbors_28 i4 0 0 G5 := (run_fix _ _ _ _ _).trans rfl
set_option maxRecDepth 20000 in
theorem e_l_Map_neighbors_28 (i3 : Int) (x4 : Int) (x5 : Int) (G : GG) : l_Map_neighbors_28 i3 x4 x5 G =
  if x5 < 16 then
    if 0 ≤ x5 ∧ x5 < 16 then
    if 0 < G 9 i3 x5 then
      l_Map_neighbors_28 i3 (bOr x4 (bShl 1 x5)) (wr (x5 + 1)) G
    else
    l_Map_neighbors_28 i3 x4 (wr (x5 + 1)) G
    else none
  else
  rI x4 G := (run_fix _ _ _ _ _).trans rfl
set_option maxRecDepth 20000 in
theorem e_f_Map_border (x1 : Int) (x2 : Int) (x3 : Int) (G : GG) : f_Map_border x1 x2 x3 G =
  bV (f_Map_requireLevel x1 G) fun G1 =>
  bV (f_Map_requireParcel x2 G1) fun G2 =>
  bV (f_Map_requireParcel x3 G2) fun G3 =>
  bR 7 (f_Lev_parcelsOf x1 G3) fun i5 G4 =>
  bV (f_Par_measureBorders i5 x2 G4) fun G6 =>
  if 0 ≤ x3 ∧ x3 < 16 then
  rI (G6 9 i5 x3) G6
  else none := (run_fix _ _ _ _ _).trans rfl
set_option maxRecDepth 20000 in
theorem e_f_Map_area (x1 : Int) (x2 : Int) (G : GG) : f_Map_area x1 x2 G =
  bV (f_Map_requireLevel x1 G) fun G1 =>
  bV (f_Map_requireParcel x2 G1) fun G2 =>
  bR 7 (f_Lev_parcelsOf x1 G2) fun i4 G3 =>
  bI (f_Par_areaOf i4 x2 G3) fun r6 G5 =>
  rI r6 G5 := (run_fix _ _ _ _ _).trans rfl
set_option maxRecDepth 20000 in
theorem e_f_Map_parcelAt (x1 : Int) (x2 : Int) (x3 : Int) (G : GG) : f_Map_parcelAt x1 x2 x3 G =
  bV (f_Map_requireLevel x1 G) fun G1 =>
  bI (f_Map_isField x2 x3 G1) fun r3 G2 =>
  if r3 = 0 then
    rX 0 (bump G2)
  else
  bR 7 (f_Lev_parcelsOf x1 G2) fun i5 G4 =>
  if 0 ≤ wr ((wr (x3 * 8)) + x2) ∧ wr ((wr (x3 * 8)) + x2) < 64 then
  rI (G4 8 i5 (wr ((wr (x3 * 8)) + x2))) G4
  else none := (run_fix _ _ _ _ _).trans rfl
set_option maxRecDepth 20000 in
theorem e_f_Map_lineAt (x1 : Int) (x2 : Int) (x3 : Int) (G : GG) : f_Map_lineAt x1 x2 x3 G =
  bV (f_Map_requireLevel x1 G) fun G1 =>
  bV (f_Map_requirePosition x2 x3 G1) fun G2 =>
  bR 2 (f_Lev_linesOf x1 G2) fun i4 G3 =>
  bI (f_Lin_lineOver i4 (wr ((wr (x2 * 64)) + x3)) G3) fun r6 G5 =>
  rI r6 G5 := (run_fix _ _ _ _ _).trans rfl
set_option maxRecDepth 20000 in
theorem e_f_Map_mostSimplified (x1 : Int) (G : GG) : f_Map_mostSimplified x1 G =
  bV (f_Map_requireLevel x1 G) fun G1 =>
  bR 2 (f_Lev_linesOf x1 G1) fun i3 G2 =>
  l_Map_mostSimplified_21 i3 (-1) 0 0 G2 := (run_fix _ _ _ _ _).trans rfl
set_option maxRecDepth 20000 in
theorem e_l_Map_mostSimplified_21 (i2 : Int) (x3 : Int) (x4 : Int) (x5 : Int) (G : GG) : l_Map_mostSimplified_21 i2 x3 x4 x5 G =
  if x5 < G 2 i2 2 then
    if 0 ≤ x5 ∧ x5 < 6 then
    if 0 ≤ x5 ∧ x5 < 6 then
    if x4 < wr ((G 4 0 x5) - (G 4 i2 x5)) then
      l_Map_mostSimplified_21 i2 x5 (wr ((G 4 0 x5) - (G 4 i2 x5))) (wr (x5 + 1)) G
    else
    l_Map_mostSimplified_21 i2 x3 x4 (wr (x5 + 1)) G
    else none
    else none
  else
  if x3 = (-1) then
    rX 5 (bump G)
  else
  rI x3 G := (run_fix _ _ _ _ _).trans rfl
set_option maxRecDepth 20000 in
theorem e_f_Map_extent (x1 : Int) (x2 : Int) (G : GG) : f_Map_extent x1 x2 G =
  bV (f_Map_requireLevel x1 G) fun G1 =>
  bV (f_Map_requireLine x2 G1) fun G2 =>
  bR 2 (f_Lev_linesOf x1 G2) fun i4 G3 =>
  bI (f_Lin_extentOf i4 x2 G3) fun r6 G5 =>
  rI r6 G5 := (run_fix _ _ _ _ _).trans rfl
set_option maxRecDepth 20000 in
theorem e_f_Map_removed (x1 : Int) (x2 : Int) (G : GG) : f_Map_removed x1 x2 G =
  bV (f_Map_requireLevel x1 G) fun G1 =>
  bV (f_Map_requireLevel x2 G1) fun G2 =>
  bR 2 (f_Lev_linesOf x1 G2) fun i4 G3 =>
  bI (f_Lin_total i4 G3) fun r6 G5 =>
  bR 2 (f_Lev_linesOf x2 G5) fun i8 G7 =>
  bI (f_Lin_total i8 G7) fun r10 G9 =>
  if wr (r6 - r10) < 0 then
    rI (wr (-(wr (r6 - r10)))) G9
  else
  rI (wr (r6 - r10)) G9 := (run_fix _ _ _ _ _).trans rfl
set_option maxRecDepth 20000 in
theorem e_f_Map_weight (x1 : Int) (x2 : Int) (x3 : Int) (G : GG) : f_Map_weight x1 x2 x3 G =
  bR 2 (f_Map_linesWith x1 x2 x3 G) fun i2 G1 =>
  bI (f_Lin_isEnd i2 x2 x3 G1) fun r4 G3 =>
  if r4 = 0 then
    bI (f_Lin_weightOf i2 x2 x3 G3) fun r6 G5 =>
    rI r6 G5
  else
  rI (-1) G3 := (run_fix _ _ _ _ _).trans rfl
set_option maxRecDepth 20000 in
theorem e_f_Map_why (x1 : Int) (x2 : Int) (x3 : Int) (G : GG) : f_Map_why x1 x2 x3 G =
  bR 2 (f_Map_linesWith x1 x2 x3 G) fun i2 G1 =>
  bI (f_She_settingOf 0 x1 0 G1) fun r4 G3 =>
  bI (f_Lin_reasonOf i2 x2 x3 r4 0 G3) fun r6 G5 =>
  rI r6 G5 := (run_fix _ _ _ _ _).trans rfl
set_option maxRecDepth 20000 in
theorem e_f_Map_lost (x1 : Int) (x2 : Int) (G : GG) : f_Map_lost x1 x2 G =
  bV (f_Map_requireLine x1 G) fun G1 =>
  bV (f_Map_requireVertex 0 x1 x2 G1) fun G2 =>
  bI (f_Lin_codeOf 0 x1 x2 G2) fun r4 G3 =>
  l_Map_lost_33 x1 r4 1 G3 := (run_fix _ _ _ _ _).trans rfl
set_option maxRecDepth 20000 in
theorem e_l_Map_lost_33 (x1 : Int) (x3 : Int) (x4 : Int) (G : GG) : l_Map_lost_33 x1 x3 x4 G =
  if x4 < 5 then
    bR 2 (f_Lev_linesOf x4 G) fun i2 G1 =>
    bI (f_Lin_hasVertex i2 x1 x3 G1) fun r4 G3 =>
    if r4 = 0 then
      rI x4 G3
    else
    l_Map_lost_33 x1 x3 (wr (x4 + 1)) G3
  else
  rI 5 G := (run_fix _ _ _ _ _).trans rfl
set_option maxRecDepth 20000 in
theorem e_f_Map_vertex (x1 : Int) (x2 : Int) (x3 : Int) (x4 : Int) (G : GG) : f_Map_vertex x1 x2 x3 x4 G =
  bR 2 (f_Map_linesWith x1 x2 x3 G) fun i2 G1 =>
  bI (f_Lin_codeOf i2 x2 x3 G1) fun r4 G3 =>
  if x4 = 0 then
    rI (bShr r4 6) G3
  else
  rI (bAnd r4 63) G3 := (run_fix _ _ _ _ _).trans rfl
set_option maxRecDepth 20000 in
theorem e_f_Map_vertices (x1 : Int) (x2 : Int) (G : GG) : f_Map_vertices x1 x2 G =
  bV (f_Map_requireLevel x1 G) fun G1 =>
  bV (f_Map_requireLine x2 G1) fun G2 =>
  bR 2 (f_Lev_linesOf x1 G2) fun i4 G3 =>
  if 0 ≤ x2 ∧ x2 < 6 then
  rI (G3 4 i4 x2) G3
  else none := (run_fix _ _ _ _ _).trans rfl
set_option maxRecDepth 20000 in
theorem e_f_Map_point (x1 : Int) (x2 : Int) (G : GG) : f_Map_point x1 x2 G =
  bV (f_Map_requirePoint x1 G) fun G1 =>
  bI (f_Map_isWithin x2 0 5 G1) fun r3 G2 =>
  if r3 = 0 then
    rX 0 (bump G2)
  else
  bI (f_Poi_valueOf 0 x1 x2 G2) fun r5 G4 =>
  rI r5 G4 := (run_fix _ _ _ _ _).trans rfl
set_option maxRecDepth 20000 in
theorem e_f_Map_count (x1 : Int) (G : GG) : f_Map_count x1 G =
  if x1 = 0 then
    rI (G 2 0 2) G
  else
  if x1 = 1 then
    rI (G 5 0 1) G
  else
  if x1 = 2 then
    bI (f_Par_countOf 0 (-1) 0 G) fun r6 G5 =>
    rI r6 G5
  else
  if x1 = 3 then
    bI (f_Par_areaOf 0 (-1) G) fun r4 G3 =>
    rI r4 G3
  else
  if x1 = 4 then
    bI (f_Lin_total 0 G) fun r2 G1 =>
    rI r2 G1
  else
  rX 0 (bump G) := (run_fix _ _ _ _ _).trans rfl
set_option maxRecDepth 20000 in
theorem e_f_Map_setting (x1 : Int) (x2 : Int) (G : GG) : f_Map_setting x1 x2 G =
  bV (f_Map_requireLevel x1 G) fun G1 =>
  bI (f_Map_isWithin x2 0 2 G1) fun r3 G2 =>
  if r3 = 0 then
    rX 0 (bump G2)
  else
  bI (f_She_settingOf 0 x1 x2 G2) fun r5 G4 =>
  rI r5 G4 := (run_fix _ _ _ _ _).trans rfl
set_option maxRecDepth 20000 in
theorem e_f_Map_set (x1 : Int) (x2 : Int) (x3 : Int) (G : GG) : f_Map_set x1 x2 x3 G =
  bI (f_Map_isWithin x1 1 4 G) fun r2 G1 =>
  if r2 = 0 then
    rX 0 (bump G1)
  else
  bI (f_Map_isWithin x2 0 2 G1) fun r4 G3 =>
  if r4 = 0 then
    rX 0 (bump G3)
  else
  if 0 ≤ x2 ∧ x2 < 3 then
  bI (f_Map_isWithin x3 0 (G3 45 0 x2) G3) fun r6 G5 =>
  if r6 = 0 then
    rX 0 (bump G5)
  else
  bI (f_She_settingOf 0 (wr (x1 - 1)) x2 G5) fun r8 G7 =>
  if x3 < r8 then
    rX 1 (bump G7)
  else
  if x1 < 4 then
    bI (f_She_settingOf 0 (wr (x1 + 1)) x2 G7) fun r10 G9 =>
    if r10 < x3 then
      rX 1 (bump G9)
    else
    bV (f_Map_beginChange G9) fun G11 =>
    bI (f_She_settingOf 0 x1 x2 G11) fun r13 G12 =>
    if 0 ≤ wr ((wr (x1 * 3)) + x2) ∧ wr ((wr (x1 * 3)) + x2) < 15 then
    rI r13 (up G12 12 0 (wr ((wr (x1 * 3)) + x2)) x3)
    else none
  else
  bV (f_Map_beginChange G7) fun G14 =>
  bI (f_She_settingOf 0 x1 x2 G14) fun r16 G15 =>
  if 0 ≤ wr ((wr (x1 * 3)) + x2) ∧ wr ((wr (x1 * 3)) + x2) < 15 then
  rI r16 (up G15 12 0 (wr ((wr (x1 * 3)) + x2)) x3)
  else none
  else none := (run_fix _ _ _ _ _).trans rfl
set_option maxRecDepth 20000 in
theorem e_f_Map_beginChange (G : GG) : f_Map_beginChange  G =
  bV (f_His_remember 0 G) fun G1 =>
  bV (f_Lev_spoil G1) fun G2 =>
  rV G2 := (run_fix _ _ _ _ _).trans rfl
set_option maxRecDepth 20000 in
theorem e_f_Map_setClass (x1 : Int) (x2 : Int) (G : GG) : f_Map_setClass x1 x2 G =
  bV (f_Map_requireParcel x1 G) fun G1 =>
  bI (f_Map_isWithin x2 0 3 G1) fun r3 G2 =>
  if r3 = 0 then
    rX 0 (bump G2)
  else
  bV (f_Map_beginChange G2) fun G4 =>
  if 0 ≤ x1 ∧ x1 < 16 then
  if 0 ≤ x1 ∧ x1 < 16 then
  rI (G4 11 0 x1) (up G4 11 0 x1 x2)
  else none
  else none := (run_fix _ _ _ _ _).trans rfl
set_option maxRecDepth 20000 in
theorem e_f_Map_paint (x1 : Int) (x2 : Int) (x3 : Int) (x4 : Int) (x5 : Int) (G : GG) : f_Map_paint x1 x2 x3 x4 x5 G =
  bI (f_Map_isField x1 x2 G) fun r2 G1 =>
  if r2 = 0 then
    rX 0 (bump G1)
  else
  bI (f_Map_isWithin x5 (-1) 15 G1) fun r4 G3 =>
  if r4 = 0 then
    rX 0 (bump G3)
  else
  bI (f_Map_isWithin x3 1 (wr (8 - x1)) G3) fun r6 G5 =>
  if r6 = 0 then
    rX 0 (bump G5)
  else
  bI (f_Map_isWithin x4 1 (wr (8 - x2)) G5) fun r8 G7 =>
  if r8 = 0 then
    rX 0 (bump G7)
  else
  bV (f_Map_beginChange G7) fun G9 =>
  l_Map_paint_61 x1 x2 x3 x4 x5 x2 G9 := (run_fix _ _ _ _ _).trans rfl
set_option maxRecDepth 20000 in
theorem e_l_Map_paint_61 (x1 : Int) (x2 : Int) (x3 : Int) (x4 : Int) (x5 : Int) (x6 : Int) (G : GG) : l_Map_paint_61 x1 x2 x3 x4 x5 x6 G =
  if x6 < wr (x2 + x4) then
    l_Map_paint_73 x1 x2 x3 x4 x5 x6 x1 G
  else
  bI (f_Par_areaOf 0 x5 G) fun r2 G1 =>
  rI r2 G1 := (run_fix _ _ _ _ _).trans rfl
set_option maxRecDepth 20000 in
theorem e_l_Map_paint_73 (x1 : Int) (x2 : Int) (x3 : Int) (x4 : Int) (x5 : Int) (x6 : Int) (x7 : Int) (G : GG) : l_Map_paint_73 x1 x2 x3 x4 x5 x6 x7 G =
  if x7 < wr (x1 + x3) then
    bV (f_Par_giveField 0 x7 x6 x5 G) fun G1 =>
    l_Map_paint_73 x1 x2 x3 x4 x5 x6 (wr (x7 + 1)) G1
  else
  l_Map_paint_61 x1 x2 x3 x4 x5 (wr (x6 + 1)) G := (run_fix _ _ _ _ _).trans rfl
set_option maxRecDepth 20000 in
theorem e_f_Map_setCorner (x1 : Int) (x2 : Int) (G : GG) : f_Map_setCorner x1 x2 G =
  bV (f_Map_requirePoint x1 G) fun G1 =>
  bI (f_Map_isWithin x2 0 3 G1) fun r3 G2 =>
  if r3 = 0 then
    rX 0 (bump G2)
  else
  bV (f_Map_beginChange G2) fun G4 =>
  bI (f_Poi_valueOf 0 x1 5 G4) fun r6 G5 =>
  bV (f_Poi_turnTo 0 x1 x2 G5) fun G7 =>
  rI r6 G7 := (run_fix _ _ _ _ _).trans rfl
set_option maxRecDepth 20000 in
theorem e_f_Map_removePoint (x1 : Int) (G : GG) : f_Map_removePoint x1 G =
  bV (f_Map_requirePoint x1 G) fun G1 =>
  bV (f_Map_beginChange G1) fun G2 =>
  bV (f_Poi_takeOut 0 x1 G2) fun G3 =>
  rI (G3 5 0 1) G3 := (run_fix _ _ _ _ _).trans rfl
set_option maxRecDepth 20000 in
theorem e_f_Map_removeLine (x1 : Int) (G : GG) : f_Map_removeLine x1 G =
  bV (f_Map_requireLine x1 G) fun G1 =>
  bV (f_Map_beginChange G1) fun G2 =>
  bV (f_Lin_takeOut 0 x1 G2) fun G3 =>
  rI (G3 2 0 2) G3 := (run_fix _ _ _ _ _).trans rfl
set_option maxRecDepth 20000 in
theorem e_f_Map_addPoint (x1 : Int) (x2 : Int) (x3 : Int) (x4 : Int) (x5 : Int) (x6 : Int) (G : GG) : f_Map_addPoint x1 x2 x3 x4 x5 x6 G =
  bI (f_Map_isPosition x1 x2 G) fun r2 G1 =>
  if r2 = 0 then
    rX 0 (bump G1)
  else
  bI (f_Map_isWithin x3 0 9 G1) fun r4 G3 =>
  if r4 = 0 then
    rX 0 (bump G3)
  else
  bI (f_Map_isWithin x4 2 12 G3) fun r6 G5 =>
  if r6 = 0 then
    rX 0 (bump G5)
  else
  bI (f_Map_isWithin x5 1 4 G5) fun r8 G7 =>
  if r8 = 0 then
    rX 0 (bump G7)
  else
  bI (f_Map_isWithin x6 0 3 G7) fun r10 G9 =>
  if r10 = 0 then
    rX 0 (bump G9)
  else
  bI (f_She_isTaken 0 (wr ((wr (x1 * 64)) + x2)) G9) fun r12 G11 =>
  if r12 = 0 then
    if G11 5 0 1 < 12 then
      bV (f_Map_beginChange G11) fun G13 =>
      bI (f_Poi_put 0 x1 x2 x3 x4 x5 x6 G13) fun r15 G14 =>
      rI r15 G14
    else
    rX 1 (bump G11)
  else
  rX 4 (bump G11) := (run_fix _ _ _ _ _).trans rfl
set_option maxRecDepth 20000 in
theorem e_f_Map_requireLevel (x0 : Int) (G : GG) : f_Map_requireLevel x0 G =
  bI (f_Map_isWithin x0 0 4 G) fun r2 G1 =>
  if r2 = 0 then
    rX 0 (bump G1)
  else
  rV G1 := (run_fix _ _ _ _ _).trans rfl
set_option maxRecDepth 20000 in
theorem e_f_Map_requireLine (x1 : Int) (G : GG) : f_Map_requireLine x1 G =
  if x1 < 0 then
    rX 2 (bump G)
  else
  if x1 < G 2 0 2 then
    rV G
  else
  rX 2 (bump G) := (run_fix _ _ _ _ _).trans rfl
set_option maxRecDepth 20000 in
theorem e_f_Map_requirePoint (x1 : Int) (G : GG) : f_Map_requirePoint x1 G =
  if x1 < 0 then
    rX 2 (bump G)
  else
  if x1 < G 5 0 1 then
    rV G
  else
  rX 2 (bump G) := (run_fix _ _ _ _ _).trans rfl
set_option maxRecDepth 20000 in
theorem e_f_Map_requirePosition (x0 : Int) (x1 : Int) (G : GG) : f_Map_requirePosition x0 x1 G =
  bI (f_Map_isPosition x0 x1 G) fun r2 G1 =>
  if r2 = 0 then
    rX 0 (bump G1)
  else
  rV G1 := (run_fix _ _ _ _ _).trans rfl
set_option maxRecDepth 20000 in
theorem e_f_Map_isWithin (x0 : Int) (x1 : Int) (x2 : Int) (G : GG) : f_Map_isWithin x0 x1 x2 G =
  if x0 < x1 then
    rI 0 G
  else
  if x2 < x0 then
    rI 0 G
  else
  rI 1 G := (run_fix _ _ _ _ _).trans rfl
set_option maxRecDepth 20000 in
theorem e_f_Map_isShown (x1 : Int) (x2 : Int) (G : GG) : f_Map_isShown x1 x2 G =
  bI (f_Poi_valueOf 0 x2 2 G) fun r2 G1 =>
  bI (f_She_settingOf 0 x1 2 G1) fun r4 G3 =>
  if r2 < r4 then
    rI 0 G3
  else
  rI 1 G3 := (run_fix _ _ _ _ _).trans rfl
set_option maxRecDepth 20000 in
theorem e_f_Map_requireParcel (x0 : Int) (G : GG) : f_Map_requireParcel x0 G =
  bI (f_Map_isWithin x0 0 15 G) fun r2 G1 =>
  if r2 = 0 then
    rX 2 (bump G1)
  else
  rV G1 := (run_fix _ _ _ _ _).trans rfl
set_option maxRecDepth 20000 in
theorem e_f_Map_isField (x0 : Int) (x1 : Int) (G : GG) : f_Map_isField x0 x1 G =
  bI (f_Map_isWithin x0 0 7 G) fun r2 G1 =>
  if r2 = 0 then
    rI 0 G1
  else
  bI (f_Map_isWithin x1 0 7 G1) fun r4 G3 =>
  if r4 = 0 then
    rI 0 G3
  else
  rI 1 G3 := (run_fix _ _ _ _ _).trans rfl
set_option maxRecDepth 20000 in
theorem e_f_Map_linesWith (x1 : Int) (x2 : Int) (x3 : Int) (G : GG) : f_Map_linesWith x1 x2 x3 G =
  bV (f_Map_requireLevel x1 G) fun G1 =>
  bV (f_Map_requireLine x2 G1) fun G2 =>
  bR 2 (f_Lev_linesOf x1 G2) fun i4 G3 =>
  bV (f_Map_requireVertex i4 x2 x3 G3) fun G5 =>
  rR 2 i4 G5 := (run_fix _ _ _ _ _).trans rfl
set_option maxRecDepth 20000 in
theorem e_f_Map_requireVertex (i0 : Int) (x1 : Int) (x2 : Int) (G : GG) : f_Map_requireVertex i0 x1 x2 G =
  if x2 < 0 then
    rX 2 (bump G)
  else
  if 0 ≤ x1 ∧ x1 < 6 then
  if x2 < G 4 i0 x1 then
    rV G
  else
  rX 2 (bump G)
  else none := (run_fix _ _ _ _ _).trans rfl
set_option maxRecDepth 20000 in
theorem e_f_Map_isPosition (x0 : Int) (x1 : Int) (G : GG) : f_Map_isPosition x0 x1 G =
  bI (f_Map_isWithin x0 0 63 G) fun r2 G1 =>
  if r2 = 0 then
    rI 0 G1
  else
  bI (f_Map_isWithin x1 0 63 G1) fun r4 G3 =>
  if r4 = 0 then
    rI 0 G3
  else
  rI 1 G3 := (run_fix _ _ _ _ _).trans rfl
