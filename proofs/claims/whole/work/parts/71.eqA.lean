/-! ===== written by a program: each function, unfolded once ===== -/
set_option maxRecDepth 20000 in
theorem e_f_She_copyFrom (i0 : Int) (i1 : Int) (G : GG) : f_She_copyFrom i0 i1 G =
  bV (f_Lin_copyFrom i0 i1 G) fun G1 =>
  bV (f_Poi_copyFrom i0 i1 G1) fun G2 =>
  bV (f_Par_copyFrom i0 i1 G2) fun G3 =>
  if 0 ≤ (cpy (cpy G3 11 i1 0 11 i0 0 16) 12 i1 0 12 i0 0 15) 1 i1 5 ∧ (cpy (cpy G3 11 i1 0 11 i0 0 16) 12 i1 0 12 i0 0 15) 1 i1 5 ≤ 1 then
  rV (up (cpy (cpy G3 11 i1 0 11 i0 0 16) 12 i1 0 12 i0 0 15) 1 i0 5 ((cpy (cpy G3 11 i1 0 11 i0 0 16) 12 i1 0 12 i0 0 15) 1 i1 5))
  else none := (run_fix _ _ _ _ _).trans rfl
set_option maxRecDepth 20000 in
theorem e_f_She_reset (i0 : Int) (G : GG) : f_She_reset i0 G =
  bV (f_Arr_fill_OWN i0 (-1) (up (up G 2 i0 2 0) 5 i0 1 0)) fun G1 =>
  bV (f_Arr_fill_KIN i0 0 G1) fun G2 =>
  l_She_reset_37 i0 0 G2 := (run_fix _ _ _ _ _).trans rfl
set_option maxRecDepth 20000 in
theorem e_l_She_reset_37 (i0 : Int) (x1 : Int) (G : GG) : l_She_reset_37 i0 x1 G =
  if x1 < 5 then
    l_She_reset_44 i0 x1 0 G
  else
  rV (up G 1 i0 5 0) := (run_fix _ _ _ _ _).trans rfl
set_option maxRecDepth 20000 in
theorem e_l_She_reset_44 (i0 : Int) (x1 : Int) (x2 : Int) (G : GG) : l_She_reset_44 i0 x1 x2 G =
  if x2 < 3 then
    if 0 ≤ x2 ∧ x2 < 3 then
    if 0 ≤ wr ((wr (x1 * 3)) + x2) ∧ wr ((wr (x1 * 3)) + x2) < 15 then
    l_She_reset_44 i0 x1 (wr (x2 + 1)) (up G 12 i0 (wr ((wr (x1 * 3)) + x2)) (wr (x1 * (G 46 0 x2))))
    else none
    else none
  else
  l_She_reset_37 i0 (wr (x1 + 1)) G := (run_fix _ _ _ _ _).trans rfl
set_option maxRecDepth 20000 in
theorem e_f_His_forget (G : GG) : f_His_forget  G =
  rV (up G 13 0 2 0) := (run_fix _ _ _ _ _).trans rfl
set_option maxRecDepth 20000 in
theorem e_f_Lev_spoil (G : GG) : f_Lev_spoil  G =
  rV (up (up (up G 15 0 4 1) 15 0 5 1) 15 0 6 0) := (run_fix _ _ _ _ _).trans rfl
set_option maxRecDepth 20000 in
theorem e_f_Lin_copyFrom (i0 : Int) (i1 : Int) (G : GG) : f_Lin_copyFrom i0 i1 G =
  rV (up (cpy (cpy G 3 i1 0 3 i0 0 60) 4 i1 0 4 i0 0 6) 2 i0 2 ((cpy (cpy G 3 i1 0 3 i0 0 60) 4 i1 0 4 i0 0 6) 2 i1 2)) := (run_fix _ _ _ _ _).trans rfl
set_option maxRecDepth 20000 in
theorem e_f_Poi_copyFrom (i0 : Int) (i1 : Int) (G : GG) : f_Poi_copyFrom i0 i1 G =
  rV (up (cpy G 6 i1 0 6 i0 0 72) 5 i0 1 ((cpy G 6 i1 0 6 i0 0 72) 5 i1 1)) := (run_fix _ _ _ _ _).trans rfl
set_option maxRecDepth 20000 in
theorem e_f_Par_copyFrom (i0 : Int) (i1 : Int) (G : GG) : f_Par_copyFrom i0 i1 G =
  rV (cpy G 8 i1 0 8 i0 0 64) := (run_fix _ _ _ _ _).trans rfl
set_option maxRecDepth 20000 in
theorem e_f_His_takeBack (i1 : Int) (G : GG) : f_His_takeBack i1 G =
  if 0 ≤ (up G 13 0 1 (iRem (wr ((wr ((G 13 0 1) + 8)) - 1)) 8)) 13 0 1 ∧ (up G 13 0 1 (iRem (wr ((wr ((G 13 0 1) + 8)) - 1)) 8)) 13 0 1 < 8 then
  bV (f_She_copyFrom i1 (((up G 13 0 1 (iRem (wr ((wr ((G 13 0 1) + 8)) - 1)) 8)) 13 0 1) + 3) (up G 13 0 1 (iRem (wr ((wr ((G 13 0 1) + 8)) - 1)) 8))) fun G1 =>
  rV (up G1 13 0 2 (wr ((G1 13 0 2) - 1)))
  else none := (run_fix _ _ _ _ _).trans rfl
set_option maxRecDepth 20000 in
theorem e_f_Lev_linesOf (x1 : Int) (G : GG) : f_Lev_linesOf x1 G =
  l_Lev_linesOf_5 x1 (G 15 0 4) G := (run_fix _ _ _ _ _).trans rfl
set_option maxRecDepth 20000 in
theorem e_l_Lev_linesOf_5 (x1 : Int) (x2 : Int) (G : GG) : l_Lev_linesOf_5 x1 x2 G =
  if x1 < x2 then
    if 0 ≤ x1 ∧ x1 < 5 then
    rR 2 (lix x1) G
    else none
  else
  if 0 ≤ x2 ∧ x2 < 5 then
  if 0 ≤ wr (x2 - 1) ∧ wr (x2 - 1) < 5 then
  bV (f_Lin_copyFrom (lix x2) (lix (wr (x2 - 1))) G) fun G1 =>
  bI (f_She_settingOf 0 x2 0 G1) fun r3 G2 =>
  l_Lev_linesOf_43 x1 x2 r3 1 0 G2
  else none
  else none := (run_fix _ _ _ _ _).trans rfl
set_option maxRecDepth 20000 in
theorem e_l_Lev_linesOf_43 (x1 : Int) (x2 : Int) (x3 : Int) (x4 : Int) (x5 : Int) (G : GG) : l_Lev_linesOf_43 x1 x2 x3 x4 x5 G =
  if x5 < 60 then
    if x4 = 0 then
      l_Lev_linesOf_5 x1 (wr (x2 + 1)) (up G 15 0 4 (wr (x2 + 1)))
    else
    if 0 ≤ x2 ∧ x2 < 5 then
    bI (f_Lin_dropLightest (lix x2) x3 0 G) fun r2 G1 =>
    l_Lev_linesOf_43 x1 x2 x3 r2 (wr (x5 + 1)) G1
    else none
  else
  l_Lev_linesOf_5 x1 (wr (x2 + 1)) (up G 15 0 4 (wr (x2 + 1))) := (run_fix _ _ _ _ _).trans rfl
set_option maxRecDepth 20000 in
theorem e_f_Lin_write (i0 : Int) (x1 : Int) (G : GG) : f_Lin_write i0 x1 G =
  if 0 ≤ 76 ∧ 76 < 65536 then
  l_Lin_write_13 i0 x1 (wr (0 + 1)) 0 (up G 24 0 0 76)
  else none := (run_fix _ _ _ _ _).trans rfl
set_option maxRecDepth 20000 in
theorem e_l_Lin_write_13 (i0 : Int) (x1 : Int) (x3 : Int) (x4 : Int) (G : GG) : l_Lin_write_13 i0 x1 x3 x4 G =
  if 0 ≤ x1 ∧ x1 < 6 then
  if x4 < G 4 i0 x1 then
    if 0 < x4 then
      if 0 ≤ x3 ∧ x3 < 61 then
      if 0 ≤ 45 ∧ 45 < 65536 then
      bI (f_Lin_codeOf i0 x1 x4 (up G 24 0 x3 45)) fun r2 G1 =>
      bI (f_Lin_writeNumber (bShr r2 6) (wr (x3 + 1)) G1) fun r4 G3 =>
      if 0 ≤ r4 ∧ r4 < 61 then
      if 0 ≤ 44 ∧ 44 < 65536 then
      bI (f_Lin_writeNumber (bAnd r2 63) (wr (r4 + 1)) (up G3 24 0 r4 44)) fun r6 G5 =>
      l_Lin_write_13 i0 x1 r6 (wr (x4 + 1)) G5
      else none
      else none
      else none
      else none
    else
    bI (f_Lin_codeOf i0 x1 x4 G) fun r8 G7 =>
    bI (f_Lin_writeNumber (bShr r8 6) x3 G7) fun r10 G9 =>
    if 0 ≤ r10 ∧ r10 < 61 then
    if 0 ≤ 44 ∧ 44 < 65536 then
    bI (f_Lin_writeNumber (bAnd r8 63) (wr (r10 + 1)) (up G9 24 0 r10 44)) fun r12 G11 =>
    l_Lin_write_13 i0 x1 r12 (wr (x4 + 1)) G11
    else none
    else none
  else
  if 0 ≤ x3 ∧ x3 < 61 then
  if 0 ≤ 59 ∧ 59 < 65536 then
  rI (wr (x3 + 1)) (up G 24 0 x3 59)
  else none
  else none
  else none := (run_fix _ _ _ _ _).trans rfl
set_option maxRecDepth 20000 in
theorem e_f_Scr_countEntries (G : GG) : f_Scr_countEntries  G =
  l_Scr_countEntries_7 0 (up G 21 0 2 0) := (run_fix _ _ _ _ _).trans rfl
set_option maxRecDepth 20000 in
theorem e_l_Scr_countEntries_7 (x1 : Int) (G : GG) : l_Scr_countEntries_7 x1 G =
  if G 21 0 2 < G 21 0 1 then
    if x1 < 60 then
      bI (f_Scr_passEntry G) fun r2 G1 =>
      if r2 = 0 then
        rI (-1) G1
      else
      l_Scr_countEntries_7 (wr (x1 + 1)) G1
    else
    if x1 = 0 then
      rI (-1) G
    else
    rI x1 G
  else
  if x1 = 0 then
    rI (-1) G
  else
  rI x1 G := (run_fix _ _ _ _ _).trans rfl
set_option maxRecDepth 20000 in
theorem e_f_She_makeEntries (i0 : Int) (x2 : Int) (G : GG) : f_She_makeEntries i0 x2 G =
  l_She_makeEntries_10 i0 x2 0 0 (up G 21 0 2 0) := (run_fix _ _ _ _ _).trans rfl
set_option maxRecDepth 20000 in
theorem e_l_She_makeEntries_10 (i0 : Int) (x2 : Int) (x3 : Int) (x4 : Int) (G : GG) : l_She_makeEntries_10 i0 x2 x3 x4 G =
  if x4 < x2 then
    if x3 = 0 then
      bI (f_Scr_passEntry G) fun r2 G1 =>
      if G1 21 0 3 = 76 then
        bI (f_She_makeLine i0 (G1 21 0 5) G1) fun r4 G3 =>
        l_She_makeEntries_10 i0 x2 r4 (wr (x4 + 1)) G3
      else
      if G1 21 0 3 = 80 then
        bI (f_She_makePoint i0 G1) fun r6 G5 =>
        l_She_makeEntries_10 i0 x2 r6 (wr (x4 + 1)) G5
      else
      bV (f_Par_giveField i0 (G1 23 0 0) (G1 23 0 1) (G1 23 0 2) G1) fun G7 =>
      l_She_makeEntries_10 i0 x2 x3 (wr (x4 + 1)) G7
    else
    rI x3 G
  else
  rI x3 G := (run_fix _ _ _ _ _).trans rfl
set_option maxRecDepth 20000 in
theorem e_f_Scr_take (x1 : Int) (G : GG) : f_Scr_take x1 G =
  if 0 ≤ G 21 0 1 ∧ G 21 0 1 < 60 then
  if 0 ≤ x1 ∧ x1 < 65536 then
  rI ((up (up G 22 0 (G 21 0 1) x1) 21 0 1 (wr (((up G 22 0 (G 21 0 1) x1) 21 0 1) + 1))) 21 0 1) (up (up G 22 0 (G 21 0 1) x1) 21 0 1 (wr (((up G 22 0 (G 21 0 1) x1) 21 0 1) + 1)))
  else none
  else none := (run_fix _ _ _ _ _).trans rfl
set_option maxRecDepth 20000 in
theorem e_f_Lev_labelsOf (x1 : Int) (G : GG) : f_Lev_labelsOf x1 G =
  if bAnd (bShr (G 15 0 6) x1) 1 = 0 then
    bR 2 (f_Lev_linesOf x1 G) fun i2 G1 =>
    if 0 ≤ x1 ∧ x1 < 5 then
    bI (f_She_settingOf 0 x1 2 G1) fun r4 G3 =>
    bV (f_Lab_placeAll x1 r4 G3) fun G5 =>
    if 0 ≤ x1 ∧ x1 < 5 then
    rR 19 x1 (up G5 15 0 6 (bOr (G5 15 0 6) (bShl 1 x1)))
    else none
    else none
  else
  if 0 ≤ x1 ∧ x1 < 5 then
  rR 19 x1 G
  else none := (run_fix _ _ _ _ _).trans rfl
set_option maxRecDepth 20000 in
theorem e_f_Itg_bitCount (x0 : Int) (G : GG) : f_Itg_bitCount x0 G =
  rI (bAnd (wr ((wr ((bAnd (wr ((wr ((bAnd (wr (x0 - (bAnd (bUshr x0 1) 1431655765))) 858993459) + (bAnd (bUshr (wr (x0 - (bAnd (bUshr x0 1) 1431655765))) 2) 858993459))) + (bUshr (wr ((bAnd (wr (x0 - (bAnd (bUshr x0 1) 1431655765))) 858993459) + (bAnd (bUshr (wr (x0 - (bAnd (bUshr x0 1) 1431655765))) 2) 858993459))) 4))) 252645135) + (bUshr (bAnd (wr ((wr ((bAnd (wr (x0 - (bAnd (bUshr x0 1) 1431655765))) 858993459) + (bAnd (bUshr (wr (x0 - (bAnd (bUshr x0 1) 1431655765))) 2) 858993459))) + (bUshr (wr ((bAnd (wr (x0 - (bAnd (bUshr x0 1) 1431655765))) 858993459) + (bAnd (bUshr (wr (x0 - (bAnd (bUshr x0 1) 1431655765))) 2) 858993459))) 4))) 252645135) 8))) + (bUshr (wr ((bAnd (wr ((wr ((bAnd (wr (x0 - (bAnd (bUshr x0 1) 1431655765))) 858993459) + (bAnd (bUshr (wr (x0 - (bAnd (bUshr x0 1) 1431655765))) 2) 858993459))) + (bUshr (wr ((bAnd (wr (x0 - (bAnd (bUshr x0 1) 1431655765))) 858993459) + (bAnd (bUshr (wr (x0 - (bAnd (bUshr x0 1) 1431655765))) 2) 858993459))) 4))) 252645135) + (bUshr (bAnd (wr ((wr ((bAnd (wr (x0 - (bAnd (bUshr x0 1) 1431655765))) 858993459) + (bAnd (bUshr (wr (x0 - (bAnd (bUshr x0 1) 1431655765))) 2) 858993459))) + (bUshr (wr ((bAnd (wr (x0 - (bAnd (bUshr x0 1) 1431655765))) 858993459) + (bAnd (bUshr (wr (x0 - (bAnd (bUshr x0 1) 1431655765))) 2) 858993459))) 4))) 252645135) 8))) 16))) 63) G := (run_fix _ _ _ _ _).trans rfl
set_option maxRecDepth 20000 in
theorem e_f_Lab_countPlaced (i0 : Int) (G : GG) : f_Lab_countPlaced i0 G =
  l_Lab_countPlaced_4 i0 0 0 G := (run_fix _ _ _ _ _).trans rfl
set_option maxRecDepth 20000 in
theorem e_l_Lab_countPlaced_4 (i0 : Int) (x1 : Int) (x2 : Int) (G : GG) : l_Lab_countPlaced_4 i0 x1 x2 G =
  if x2 < G 5 0 1 then
    if 0 ≤ x2 ∧ x2 < 12 then
    if G 20 i0 x2 = (-1) then
      l_Lab_countPlaced_4 i0 x1 (wr (x2 + 1)) G
    else
    l_Lab_countPlaced_4 i0 (wr (x1 + 1)) (wr (x2 + 1)) G
    else none
  else
  rI x1 G := (run_fix _ _ _ _ _).trans rfl
set_option maxRecDepth 20000 in
theorem e_f_Lab_coveredByAll (i0 : Int) (G : GG) : f_Lab_coveredByAll i0 G =
  l_Lab_coveredByAll_4 i0 0 0 G := (run_fix _ _ _ _ _).trans rfl
set_option maxRecDepth 20000 in
theorem e_l_Lab_coveredByAll_4 (i0 : Int) (x1 : Int) (x2 : Int) (G : GG) : l_Lab_coveredByAll_4 i0 x1 x2 G =
  if x2 < G 5 0 1 then
    if 0 ≤ x2 ∧ x2 < 12 then
    if G 20 i0 x2 = (-1) then
      l_Lab_coveredByAll_4 i0 x1 (wr (x2 + 1)) G
    else
    bI (f_Poi_valueOf 0 x2 3 G) fun r2 G1 =>
    bI (f_Poi_valueOf 0 x2 4 G1) fun r4 G3 =>
    l_Lab_coveredByAll_4 i0 (wr (x1 + (wr (r2 * r4)))) (wr (x2 + 1)) G3
    else none
  else
  rI x1 G := (run_fix _ _ _ _ _).trans rfl
set_option maxRecDepth 20000 in
theorem e_f_Lab_labelOver (i0 : Int) (x1 : Int) (x2 : Int) (G : GG) : f_Lab_labelOver i0 x1 x2 G =
  l_Lab_labelOver_2 i0 x1 x2 0 G := (run_fix _ _ _ _ _).trans rfl
set_option maxRecDepth 20000 in
theorem e_l_Lab_labelOver_2 (i0 : Int) (x1 : Int) (x2 : Int) (x3 : Int) (G : GG) : l_Lab_labelOver_2 i0 x1 x2 x3 G =
  if x3 < G 5 0 1 then
    if 0 ≤ x3 ∧ x3 < 12 then
    if G 20 i0 x3 = (-1) then
      l_Lab_labelOver_2 i0 x1 x2 (wr (x3 + 1)) G
    else
    bI (f_Lab_overlaps i0 x3 x1 x2 x1 x2 G) fun r2 G1 =>
    if r2 = 0 then
      l_Lab_labelOver_2 i0 x1 x2 (wr (x3 + 1)) G1
    else
    rI x3 G1
    else none
  else
  rI (-1) G := (run_fix _ _ _ _ _).trans rfl
set_option maxRecDepth 20000 in
theorem e_f_Lab_reasonAgainst (i0 : Int) (x1 : Int) (x2 : Int) (G : GG) : f_Lab_reasonAgainst i0 x1 x2 G =
  bI (f_Poi_leftOf 0 x1 x2 G) fun r2 G1 =>
  bI (f_Poi_lowOf 0 x1 x2 G1) fun r4 G3 =>
  bI (f_Poi_valueOf 0 x1 3 G3) fun r6 G5 =>
  bI (f_Poi_valueOf 0 x1 4 G5) fun r8 G7 =>
  if r2 < 0 then
    rI 1 G7
  else
  if r4 < 0 then
    rI 1 G7
  else
  if wr ((wr (r2 + r6)) - 1) < 64 then
    if wr ((wr (r4 + r8)) - 1) < 64 then
      bI (f_Lab_coversShownPoint i0 r2 r4 (wr ((wr (r2 + r6)) - 1)) (wr ((wr (r4 + r8)) - 1)) G7) fun r10 G9 =>
      if r10 = 0 then
        l_Lab_reasonAgainst_96 i0 x1 r2 r4 (wr ((wr (r2 + r6)) - 1)) (wr ((wr (r4 + r8)) - 1)) 0 G9
      else
      rI 2 G9
    else
    rI 1 G7
  else
  rI 1 G7 := (run_fix _ _ _ _ _).trans rfl
set_option maxRecDepth 20000 in
theorem e_l_Lab_reasonAgainst_96 (i0 : Int) (x1 : Int) (x3 : Int) (x4 : Int) (x5 : Int) (x6 : Int) (x7 : Int) (G : GG) : l_Lab_reasonAgainst_96 i0 x1 x3 x4 x5 x6 x7 G =
  if x7 < G 5 0 1 then
    if 0 ≤ x7 ∧ x7 < 12 then
    if G 20 i0 x7 = (-1) then
      l_Lab_reasonAgainst_96 i0 x1 x3 x4 x5 x6 (wr (x7 + 1)) G
    else
    bI (f_Lab_isBefore i0 x7 x1 G) fun r2 G1 =>
    if r2 = 0 then
      l_Lab_reasonAgainst_96 i0 x1 x3 x4 x5 x6 (wr (x7 + 1)) G1
    else
    bI (f_Lab_overlaps i0 x7 x3 x4 x5 x6 G1) fun r4 G3 =>
    if r4 = 0 then
      l_Lab_reasonAgainst_96 i0 x1 x3 x4 x5 x6 (wr (x7 + 1)) G3
    else
    rI 3 G3
    else none
  else
  bI (f_Lab_coversVertex i0 x3 x4 x5 x6 G) fun r6 G5 =>
  if r6 = 0 then
    rI 0 G5
  else
  rI 4 G5 := (run_fix _ _ _ _ _).trans rfl
set_option maxRecDepth 20000 in
theorem e_f_Lev_parcelsOf (x1 : Int) (G : GG) : f_Lev_parcelsOf x1 G =
  l_Lev_parcelsOf_5 x1 (G 15 0 5) G := (run_fix _ _ _ _ _).trans rfl
set_option maxRecDepth 20000 in
theorem e_l_Lev_parcelsOf_5 (x1 : Int) (x2 : Int) (G : GG) : l_Lev_parcelsOf_5 x1 x2 G =
  if x1 < x2 then
    if 0 ≤ x1 ∧ x1 < 5 then
    rR 7 (lix x1) G
    else none
  else
  if 0 ≤ x2 ∧ x2 < 5 then
  if 0 ≤ wr (x2 - 1) ∧ wr (x2 - 1) < 5 then
  bV (f_Par_copyFrom (lix x2) (lix (wr (x2 - 1))) G) fun G1 =>
  bI (f_She_settingOf 0 x2 1 G1) fun r3 G2 =>
  l_Lev_parcelsOf_43 x1 x2 r3 1 0 G2
  else none
  else none := (run_fix _ _ _ _ _).trans rfl
set_option maxRecDepth 20000 in
theorem e_l_Lev_parcelsOf_43 (x1 : Int) (x2 : Int) (x3 : Int) (x4 : Int) (x5 : Int) (G : GG) : l_Lev_parcelsOf_43 x1 x2 x3 x4 x5 G =
  if x5 < 16 then
    if x4 = 0 then
      l_Lev_parcelsOf_5 x1 (wr (x2 + 1)) (up G 15 0 5 (wr (x2 + 1)))
    else
    if 0 ≤ x2 ∧ x2 < 5 then
    bI (f_Par_mergeSmallest (lix x2) x3 0 (G 1 0 5) G) fun r2 G1 =>
    l_Lev_parcelsOf_43 x1 x2 x3 r2 (wr (x5 + 1)) G1
    else none
  else
  l_Lev_parcelsOf_5 x1 (wr (x2 + 1)) (up G 15 0 5 (wr (x2 + 1))) := (run_fix _ _ _ _ _).trans rfl
set_option maxRecDepth 20000 in
theorem e_f_Par_outlineOf (i0 : Int) (x1 : Int) (i2 : Int) (G : GG) : f_Par_outlineOf i0 x1 i2 G =
  l_Par_outlineOf_5 i0 x1 i2 0 0 G := (run_fix _ _ _ _ _).trans rfl
set_option maxRecDepth 20000 in
theorem e_l_Par_outlineOf_5 (i0 : Int) (x1 : Int) (i2 : Int) (x3 : Int) (x4 : Int) (G : GG) : l_Par_outlineOf_5 i0 x1 i2 x3 x4 G =
  if x4 < 64 then
    bI (f_Par_isOfKind i0 x4 x1 i2 G) fun r2 G1 =>
    if iRem x4 8 < 7 then
      bI (f_Par_isOfKind i0 (wr (x4 + 1)) x1 i2 G1) fun r4 G3 =>
      if r2 = r4 then
        if wr (x4 + 8) < 64 then
          bI (f_Par_isOfKind i0 (wr (x4 + 8)) x1 i2 G3) fun r6 G5 =>
          if r2 = r6 then
            l_Par_outlineOf_5 i0 x1 i2 x3 (wr (x4 + 1)) G5
          else
          l_Par_outlineOf_5 i0 x1 i2 (wr (x3 + 1)) (wr (x4 + 1)) G5
        else
        l_Par_outlineOf_5 i0 x1 i2 x3 (wr (x4 + 1)) G3
      else
      if wr (x4 + 8) < 64 then
        bI (f_Par_isOfKind i0 (wr (x4 + 8)) x1 i2 G3) fun r8 G7 =>
        if r2 = r8 then
          l_Par_outlineOf_5 i0 x1 i2 (wr (x3 + 1)) (wr (x4 + 1)) G7
        else
        l_Par_outlineOf_5 i0 x1 i2 (wr (wr (x3 + 1) + 1)) (wr (x4 + 1)) G7
      else
      l_Par_outlineOf_5 i0 x1 i2 (wr (x3 + 1)) (wr (x4 + 1)) G3
    else
    if wr (x4 + 8) < 64 then
      bI (f_Par_isOfKind i0 (wr (x4 + 8)) x1 i2 G1) fun r10 G9 =>
      if r2 = r10 then
        l_Par_outlineOf_5 i0 x1 i2 x3 (wr (x4 + 1)) G9
      else
      l_Par_outlineOf_5 i0 x1 i2 (wr (x3 + 1)) (wr (x4 + 1)) G9
    else
    l_Par_outlineOf_5 i0 x1 i2 x3 (wr (x4 + 1)) G1
  else
  rI x3 G := (run_fix _ _ _ _ _).trans rfl
set_option maxRecDepth 20000 in
theorem e_f_She_settingOf (i0 : Int) (x1 : Int) (x2 : Int) (G : GG) : f_She_settingOf i0 x1 x2 G =
  if 0 ≤ wr ((wr (x1 * 3)) + x2) ∧ wr ((wr (x1 * 3)) + x2) < 15 then
  rI (G 12 i0 (wr ((wr (x1 * 3)) + x2))) G
  else none := (run_fix _ _ _ _ _).trans rfl
set_option maxRecDepth 20000 in
theorem e_f_Par_countSmall (i0 : Int) (x1 : Int) (G : GG) : f_Par_countSmall i0 x1 G =
  bV (f_Par_measureAreas i0 G) fun G1 =>
  l_Par_countSmall_8 i0 x1 0 0 G1 := (run_fix _ _ _ _ _).trans rfl
set_option maxRecDepth 20000 in
theorem e_l_Par_countSmall_8 (i0 : Int) (x1 : Int) (x2 : Int) (x3 : Int) (G : GG) : l_Par_countSmall_8 i0 x1 x2 x3 G =
  if x3 < 16 then
    if 0 ≤ x3 ∧ x3 < 16 then
    if 0 < G 10 i0 x3 then
      if 0 ≤ x3 ∧ x3 < 16 then
      if G 10 i0 x3 < x1 then
        l_Par_countSmall_8 i0 x1 (wr (x2 + 1)) (wr (x3 + 1)) G
      else
      l_Par_countSmall_8 i0 x1 x2 (wr (x3 + 1)) G
      else none
    else
    l_Par_countSmall_8 i0 x1 x2 (wr (x3 + 1)) G
    else none
  else
  rI x2 G := (run_fix _ _ _ _ _).trans rfl
set_option maxRecDepth 20000 in
theorem e_f_Par_countOf (i0 : Int) (x1 : Int) (i2 : Int) (G : GG) : f_Par_countOf i0 x1 i2 G =
  l_Par_countOf_5 i0 x1 i2 0 0 G := (run_fix _ _ _ _ _).trans rfl
set_option maxRecDepth 20000 in
theorem e_l_Par_countOf_5 (i0 : Int) (x1 : Int) (i2 : Int) (x3 : Int) (x4 : Int) (G : GG) : l_Par_countOf_5 i0 x1 i2 x3 x4 G =
  if x4 < 16 then
    if x1 = (-1) then
      bI (f_Par_firstFieldOf i0 x4 G) fun r2 G1 =>
      if r2 = (-1) then
        l_Par_countOf_5 i0 x1 i2 x3 (wr (x4 + 1)) G1
      else
      l_Par_countOf_5 i0 x1 i2 (wr (x3 + 1)) (wr (x4 + 1)) G1
    else
    if 0 ≤ x4 ∧ x4 < 16 then
    if G 11 i2 x4 = x1 then
      bI (f_Par_firstFieldOf i0 x4 G) fun r4 G3 =>
      if r4 = (-1) then
        l_Par_countOf_5 i0 x1 i2 x3 (wr (x4 + 1)) G3
      else
      l_Par_countOf_5 i0 x1 i2 (wr (x3 + 1)) (wr (x4 + 1)) G3
    else
    l_Par_countOf_5 i0 x1 i2 x3 (wr (x4 + 1)) G
    else none
  else
  rI x3 G := (run_fix _ _ _ _ _).trans rfl
set_option maxRecDepth 20000 in
theorem e_f_Par_firstFieldOf (i0 : Int) (x1 : Int) (G : GG) : f_Par_firstFieldOf i0 x1 G =
  l_Par_firstFieldOf_2 i0 x1 0 G := (run_fix _ _ _ _ _).trans rfl
set_option maxRecDepth 20000 in
theorem e_l_Par_firstFieldOf_2 (i0 : Int) (x1 : Int) (x2 : Int) (G : GG) : l_Par_firstFieldOf_2 i0 x1 x2 G =
  if x2 < 64 then
    if 0 ≤ x2 ∧ x2 < 64 then
    if G 8 i0 x2 = x1 then
      rI x2 G
    else
    l_Par_firstFieldOf_2 i0 x1 (wr (x2 + 1)) G
    else none
  else
  rI (-1) G := (run_fix _ _ _ _ _).trans rfl
set_option maxRecDepth 20000 in
theorem e_f_Par_measureBorders (i0 : Int) (x1 : Int) (G : GG) : f_Par_measureBorders i0 x1 G =
  bV (f_Arr_fill_BOR i0 0 G) fun G1 =>
  l_Par_measureBorders_10 i0 x1 0 G1 := (run_fix _ _ _ _ _).trans rfl
set_option maxRecDepth 20000 in
theorem e_l_Par_measureBorders_10 (i0 : Int) (x1 : Int) (x2 : Int) (G : GG) : l_Par_measureBorders_10 i0 x1 x2 G =
  if x2 < 64 then
    if iRem x2 8 < 7 then
      if 0 ≤ x2 ∧ x2 < 64 then
      if 0 ≤ wr (x2 + 1) ∧ wr (x2 + 1) < 64 then
      bV (f_Par_addToBorder i0 x1 (G 8 i0 x2) (G 8 i0 (wr (x2 + 1))) G) fun G1 =>
      if wr (x2 + 8) < 64 then
        if 0 ≤ x2 ∧ x2 < 64 then
        if 0 ≤ wr (x2 + 8) ∧ wr (x2 + 8) < 64 then
        bV (f_Par_addToBorder i0 x1 (G1 8 i0 x2) (G1 8 i0 (wr (x2 + 8))) G1) fun G2 =>
        l_Par_measureBorders_10 i0 x1 (wr (x2 + 1)) G2
        else none
        else none
      else
      l_Par_measureBorders_10 i0 x1 (wr (x2 + 1)) G1
      else none
      else none
    else
    if wr (x2 + 8) < 64 then
      if 0 ≤ x2 ∧ x2 < 64 then
      if 0 ≤ wr (x2 + 8) ∧ wr (x2 + 8) < 64 then
      bV (f_Par_addToBorder i0 x1 (G 8 i0 x2) (G 8 i0 (wr (x2 + 8))) G) fun G3 =>
      l_Par_measureBorders_10 i0 x1 (wr (x2 + 1)) G3
      else none
      else none
    else
    l_Par_measureBorders_10 i0 x1 (wr (x2 + 1)) G
  else
  rV G := (run_fix _ _ _ _ _).trans rfl
set_option maxRecDepth 20000 in
theorem e_f_Par_areaOf (i0 : Int) (x1 : Int) (G : GG) : f_Par_areaOf i0 x1 G =
  l_Par_areaOf_4 i0 x1 0 0 G := (run_fix _ _ _ _ _).trans rfl
set_option maxRecDepth 20000 in
theorem e_l_Par_areaOf_4 (i0 : Int) (x1 : Int) (x2 : Int) (x3 : Int) (G : GG) : l_Par_areaOf_4 i0 x1 x2 x3 G =
  if x3 < 64 then
    if 0 ≤ x3 ∧ x3 < 64 then
    if G 8 i0 x3 = x1 then
      l_Par_areaOf_4 i0 x1 (wr (x2 + 1)) (wr (x3 + 1)) G
    else
    l_Par_areaOf_4 i0 x1 x2 (wr (x3 + 1)) G
    else none
  else
  rI x2 G := (run_fix _ _ _ _ _).trans rfl
set_option maxRecDepth 20000 in
theorem e_f_Lin_lineOver (i0 : Int) (x1 : Int) (G : GG) : f_Lin_lineOver i0 x1 G =
  l_Lin_lineOver_2 i0 x1 0 G := (run_fix _ _ _ _ _).trans rfl
set_option maxRecDepth 20000 in
theorem e_l_Lin_lineOver_2 (i0 : Int) (x1 : Int) (x2 : Int) (G : GG) : l_Lin_lineOver_2 i0 x1 x2 G =
  if x2 < G 2 i0 2 then
    l_Lin_lineOver_18 i0 x1 x2 (wr (x2 * 10)) (wr (x2 * 10)) G
  else
  rI (-1) G := (run_fix _ _ _ _ _).trans rfl
set_option maxRecDepth 20000 in
theorem e_l_Lin_lineOver_18 (i0 : Int) (x1 : Int) (x2 : Int) (x3 : Int) (x4 : Int) (G : GG) : l_Lin_lineOver_18 i0 x1 x2 x3 x4 G =
  if 0 ≤ x2 ∧ x2 < 6 then
  if x4 < wr ((wr (x3 + (G 4 i0 x2))) - 1) then
    if 0 ≤ x4 ∧ x4 < 60 then
    if 0 ≤ wr (x4 + 1) ∧ wr (x4 + 1) < 60 then
    bI (f_Geo_isOnSegment (G 3 i0 x4) (G 3 i0 (wr (x4 + 1))) x1 G) fun r2 G1 =>
    if r2 = 0 then
      l_Lin_lineOver_18 i0 x1 x2 x3 (wr (x4 + 1)) G1
    else
    rI x2 G1
    else none
    else none
  else
  l_Lin_lineOver_2 i0 x1 (wr (x2 + 1)) G
  else none := (run_fix _ _ _ _ _).trans rfl
set_option maxRecDepth 20000 in
theorem e_f_Lin_extentOf (i0 : Int) (x1 : Int) (G : GG) : f_Lin_extentOf i0 x1 G =
  l_Lin_extentOf_10 i0 x1 0 (wr (x1 * 10)) (wr (x1 * 10)) G := (run_fix _ _ _ _ _).trans rfl
set_option maxRecDepth 20000 in
theorem e_l_Lin_extentOf_10 (i0 : Int) (x1 : Int) (x2 : Int) (x3 : Int) (x4 : Int) (G : GG) : l_Lin_extentOf_10 i0 x1 x2 x3 x4 G =
  if 0 ≤ x1 ∧ x1 < 6 then
  if x4 < wr ((wr (x3 + (G 4 i0 x1))) - 1) then
    if 0 ≤ x4 ∧ x4 < 60 then
    if 0 ≤ wr (x4 + 1) ∧ wr (x4 + 1) < 60 then
    if 0 ≤ x4 ∧ x4 < 60 then
    if 0 ≤ wr (x4 + 1) ∧ wr (x4 + 1) < 60 then
    l_Lin_extentOf_10 i0 x1 (wr ((wr (x2 + (mAbs (wr ((bShr (G 3 i0 x4) 6) - (bShr (G 3 i0 (wr (x4 + 1))) 6)))))) + (mAbs (wr ((bAnd (G 3 i0 x4) 63) - (bAnd (G 3 i0 (wr (x4 + 1))) 63)))))) x3 (wr (x4 + 1)) G
    else none
    else none
    else none
    else none
  else
  rI x2 G
  else none := (run_fix _ _ _ _ _).trans rfl
set_option maxRecDepth 20000 in
theorem e_f_Lin_total (i0 : Int) (G : GG) : f_Lin_total i0 G =
  l_Lin_total_4 i0 0 0 G := (run_fix _ _ _ _ _).trans rfl
set_option maxRecDepth 20000 in
theorem e_l_Lin_total_4 (i0 : Int) (x1 : Int) (x2 : Int) (G : GG) : l_Lin_total_4 i0 x1 x2 G =
  if x2 < G 2 i0 2 then
    if 0 ≤ x2 ∧ x2 < 6 then
    l_Lin_total_4 i0 (wr (x1 + (G 4 i0 x2))) (wr (x2 + 1)) G
    else none
  else
  rI x1 G := (run_fix _ _ _ _ _).trans rfl
set_option maxRecDepth 20000 in
theorem e_f_Lin_isEnd (i0 : Int) (x1 : Int) (x2 : Int) (G : GG) : f_Lin_isEnd i0 x1 x2 G =
  if 0 < x2 then
    if 0 ≤ x1 ∧ x1 < 6 then
    if x2 < wr ((G 4 i0 x1) - 1) then
      rI 0 G
    else
    rI 1 G
    else none
  else
  rI 1 G := (run_fix _ _ _ _ _).trans rfl
set_option maxRecDepth 20000 in
theorem e_f_Lin_weightOf (i0 : Int) (x1 : Int) (x2 : Int) (G : GG) : f_Lin_weightOf i0 x1 x2 G =
  if 0 ≤ wr ((wr ((wr (x1 * 10)) + x2)) - 1) ∧ wr ((wr ((wr (x1 * 10)) + x2)) - 1) < 60 then
  if 0 ≤ wr ((wr (x1 * 10)) + x2) ∧ wr ((wr (x1 * 10)) + x2) < 60 then
  if 0 ≤ wr ((wr ((wr (x1 * 10)) + x2)) + 1) ∧ wr ((wr ((wr (x1 * 10)) + x2)) + 1) < 60 then
  bI (f_Geo_turn (G 3 i0 (wr ((wr ((wr (x1 * 10)) + x2)) - 1))) (G 3 i0 (wr ((wr (x1 * 10)) + x2))) (G 3 i0 (wr ((wr ((wr (x1 * 10)) + x2)) + 1))) G) fun r2 G1 =>
  if r2 < 0 then
    rI (wr (-r2)) G1
  else
  rI r2 G1
  else none
  else none
  else none := (run_fix _ _ _ _ _).trans rfl
set_option maxRecDepth 20000 in
theorem e_f_Lin_reasonOf (i0 : Int) (x1 : Int) (x2 : Int) (x3 : Int) (i4 : Int) (G : GG) : f_Lin_reasonOf i0 x1 x2 x3 i4 G =
  bI (f_Lin_isEnd i0 x1 x2 G) fun r2 G1 =>
  if r2 = 0 then
    bI (f_Lin_weightOf i0 x1 x2 G1) fun r4 G3 =>
    if x3 < r4 then
      rI 2 G3
    else
    if 0 ≤ wr ((wr ((wr (x1 * 10)) + x2)) - 1) ∧ wr ((wr ((wr (x1 * 10)) + x2)) - 1) < 60 then
    if 0 ≤ wr ((wr (x1 * 10)) + x2) ∧ wr ((wr (x1 * 10)) + x2) < 60 then
    if 0 ≤ wr ((wr ((wr (x1 * 10)) + x2)) + 1) ∧ wr ((wr ((wr (x1 * 10)) + x2)) + 1) < 60 then
    bI (f_Poi_isAnyInTriangle i4 (G3 3 i0 (wr ((wr ((wr (x1 * 10)) + x2)) - 1))) (G3 3 i0 (wr ((wr (x1 * 10)) + x2))) (G3 3 i0 (wr ((wr ((wr (x1 * 10)) + x2)) + 1))) G3) fun r6 G5 =>
    if r6 = 0 then
      bI (f_Lin_isClearWithout i0 x1 x2 G5) fun r8 G7 =>
      if r8 = 0 then
        rI 4 G7
      else
      rI 0 G7
    else
    rI 3 G5
    else none
    else none
    else none
  else
  rI 1 G1 := (run_fix _ _ _ _ _).trans rfl
set_option maxRecDepth 20000 in
theorem e_f_Lin_codeOf (i0 : Int) (x1 : Int) (x2 : Int) (G : GG) : f_Lin_codeOf i0 x1 x2 G =
  if 0 ≤ wr ((wr (x1 * 10)) + x2) ∧ wr ((wr (x1 * 10)) + x2) < 60 then
  rI (G 3 i0 (wr ((wr (x1 * 10)) + x2))) G
  else none := (run_fix _ _ _ _ _).trans rfl
set_option maxRecDepth 20000 in
theorem e_f_Lin_hasVertex (i0 : Int) (x1 : Int) (x2 : Int) (G : GG) : f_Lin_hasVertex i0 x1 x2 G =
  l_Lin_hasVertex_8 i0 x1 x2 (wr (x1 * 10)) (wr (x1 * 10)) G := (run_fix _ _ _ _ _).trans rfl
set_option maxRecDepth 20000 in
theorem e_l_Lin_hasVertex_8 (i0 : Int) (x1 : Int) (x2 : Int) (x3 : Int) (x4 : Int) (G : GG) : l_Lin_hasVertex_8 i0 x1 x2 x3 x4 G =
  if 0 ≤ x1 ∧ x1 < 6 then
  if x4 < wr (x3 + (G 4 i0 x1)) then
    if 0 ≤ x4 ∧ x4 < 60 then
    if G 3 i0 x4 = x2 then
      rI 1 G
    else
    l_Lin_hasVertex_8 i0 x1 x2 x3 (wr (x4 + 1)) G
    else none
  else
  rI 0 G
  else none := (run_fix _ _ _ _ _).trans rfl
set_option maxRecDepth 20000 in
theorem e_f_Poi_valueOf (i0 : Int) (x1 : Int) (x2 : Int) (G : GG) : f_Poi_valueOf i0 x1 x2 G =
  if 0 ≤ wr ((wr (x1 * 6)) + x2) ∧ wr ((wr (x1 * 6)) + x2) < 72 then
  rI (G 6 i0 (wr ((wr (x1 * 6)) + x2))) G
  else none := (run_fix _ _ _ _ _).trans rfl
set_option maxRecDepth 20000 in
theorem e_f_His_remember (i1 : Int) (G : GG) : f_His_remember i1 G =
  if 0 ≤ G 13 0 1 ∧ G 13 0 1 < 8 then
  bV (f_She_copyFrom ((G 13 0 1) + 3) i1 G) fun G1 =>
  rV (up (up G1 13 0 1 (iRem (wr ((G1 13 0 1) + 1)) 8)) 13 0 2 (mMin (wr (((up G1 13 0 1 (iRem (wr ((G1 13 0 1) + 1)) 8)) 13 0 2) + 1)) 8))
  else none := (run_fix _ _ _ _ _).trans rfl
set_option maxRecDepth 20000 in
theorem e_f_Par_giveField (i0 : Int) (x1 : Int) (x2 : Int) (x3 : Int) (G : GG) : f_Par_giveField i0 x1 x2 x3 G =
  if 0 ≤ wr ((wr (x2 * 8)) + x1) ∧ wr ((wr (x2 * 8)) + x1) < 64 then
  rV (up G 8 i0 (wr ((wr (x2 * 8)) + x1)) x3)
  else none := (run_fix _ _ _ _ _).trans rfl
set_option maxRecDepth 20000 in
theorem e_f_Poi_turnTo (i0 : Int) (x1 : Int) (x2 : Int) (G : GG) : f_Poi_turnTo i0 x1 x2 G =
  if 0 ≤ wr ((wr (x1 * 6)) + 5) ∧ wr ((wr (x1 * 6)) + 5) < 72 then
  rV (up G 6 i0 (wr ((wr (x1 * 6)) + 5)) x2)
  else none := (run_fix _ _ _ _ _).trans rfl
set_option maxRecDepth 20000 in
theorem e_f_Poi_takeOut (i0 : Int) (x1 : Int) (G : GG) : f_Poi_takeOut i0 x1 G =
  if ((0 : Int) ≤ wr ((wr (x1 * 6)) + 6) ∧ (0 : Int) ≤ wr (x1 * 6)) ∧ (0 ≤ wr ((wr ((wr ((G 5 i0 1) - 1)) - x1)) * 6) ∧ ((wr ((wr (x1 * 6)) + 6)) + (wr ((wr ((wr ((G 5 i0 1) - 1)) - x1)) * 6)) ≤ 72 ∧ (wr (x1 * 6)) + (wr ((wr ((wr ((G 5 i0 1) - 1)) - x1)) * 6)) ≤ 72)) then
  rV (up (cpy G 6 i0 (wr ((wr (x1 * 6)) + 6)) 6 i0 (wr (x1 * 6)) (wr ((wr ((wr ((G 5 i0 1) - 1)) - x1)) * 6))) 5 i0 1 (wr (((cpy G 6 i0 (wr ((wr (x1 * 6)) + 6)) 6 i0 (wr (x1 * 6)) (wr ((wr ((wr ((G 5 i0 1) - 1)) - x1)) * 6))) 5 i0 1) - 1)))
  else none := (run_fix _ _ _ _ _).trans rfl
set_option maxRecDepth 20000 in
theorem e_f_Lin_takeOut (i0 : Int) (x1 : Int) (G : GG) : f_Lin_takeOut i0 x1 G =
  if ((0 : Int) ≤ wr ((wr (x1 + 1)) * 10) ∧ (0 : Int) ≤ wr (x1 * 10)) ∧ (0 ≤ wr ((wr ((wr ((G 2 i0 2) - 1)) - x1)) * 10) ∧ ((wr ((wr (x1 + 1)) * 10)) + (wr ((wr ((wr ((G 2 i0 2) - 1)) - x1)) * 10)) ≤ 60 ∧ (wr (x1 * 10)) + (wr ((wr ((wr ((G 2 i0 2) - 1)) - x1)) * 10)) ≤ 60)) then
  if ((0 : Int) ≤ wr (x1 + 1) ∧ (0 : Int) ≤ x1) ∧ (0 ≤ wr ((wr ((G 2 i0 2) - 1)) - x1) ∧ ((wr (x1 + 1)) + (wr ((wr ((G 2 i0 2) - 1)) - x1)) ≤ 6 ∧ x1 + (wr ((wr ((G 2 i0 2) - 1)) - x1)) ≤ 6)) then
  rV (up (cpy (cpy G 3 i0 (wr ((wr (x1 + 1)) * 10)) 3 i0 (wr (x1 * 10)) (wr ((wr ((wr ((G 2 i0 2) - 1)) - x1)) * 10))) 4 i0 (wr (x1 + 1)) 4 i0 x1 (wr ((wr ((G 2 i0 2) - 1)) - x1))) 2 i0 2 (wr (((cpy (cpy G 3 i0 (wr ((wr (x1 + 1)) * 10)) 3 i0 (wr (x1 * 10)) (wr ((wr ((wr ((G 2 i0 2) - 1)) - x1)) * 10))) 4 i0 (wr (x1 + 1)) 4 i0 x1 (wr ((wr ((G 2 i0 2) - 1)) - x1))) 2 i0 2) - 1)))
  else none
  else none := (run_fix _ _ _ _ _).trans rfl
set_option maxRecDepth 20000 in
theorem e_f_She_isTaken (i0 : Int) (x1 : Int) (G : GG) : f_She_isTaken i0 x1 G =
  bI (f_Poi_isAnyAt i0 x1 G) fun r2 G1 =>
  if r2 = 0 then
    bI (f_Lin_lineOver i0 x1 G1) fun r4 G3 =>
    if r4 = (-1) then
      rI 0 G3
    else
    rI 1 G3
  else
  rI 1 G1 := (run_fix _ _ _ _ _).trans rfl
set_option maxRecDepth 20000 in
theorem e_f_Poi_put (i0 : Int) (x1 : Int) (x2 : Int) (x3 : Int) (x4 : Int) (x5 : Int) (x6 : Int) (G : GG) : f_Poi_put i0 x1 x2 x3 x4 x5 x6 G =
  if 0 ≤ wr ((wr ((G 5 i0 1) * 6)) + 0) ∧ wr ((wr ((G 5 i0 1) * 6)) + 0) < 72 then
  if 0 ≤ wr ((wr ((G 5 i0 1) * 6)) + 1) ∧ wr ((wr ((G 5 i0 1) * 6)) + 1) < 72 then
  if 0 ≤ wr ((wr ((G 5 i0 1) * 6)) + 2) ∧ wr ((wr ((G 5 i0 1) * 6)) + 2) < 72 then
  if 0 ≤ wr ((wr ((G 5 i0 1) * 6)) + 3) ∧ wr ((wr ((G 5 i0 1) * 6)) + 3) < 72 then
  if 0 ≤ wr ((wr ((G 5 i0 1) * 6)) + 4) ∧ wr ((wr ((G 5 i0 1) * 6)) + 4) < 72 then
  if 0 ≤ wr ((wr ((G 5 i0 1) * 6)) + 5) ∧ wr ((wr ((G 5 i0 1) * 6)) + 5) < 72 then
  rI (wr (((up (up (up (up (up (up (up G 6 i0 (wr ((wr ((G 5 i0 1) * 6)) + 0)) x1) 6 i0 (wr ((wr ((G 5 i0 1) * 6)) + 1)) x2) 6 i0 (wr ((wr ((G 5 i0 1) * 6)) + 2)) x3) 6 i0 (wr ((wr ((G 5 i0 1) * 6)) + 3)) x4) 6 i0 (wr ((wr ((G 5 i0 1) * 6)) + 4)) x5) 6 i0 (wr ((wr ((G 5 i0 1) * 6)) + 5)) x6) 5 i0 1 (wr (((up (up (up (up (up (up G 6 i0 (wr ((wr ((G 5 i0 1) * 6)) + 0)) x1) 6 i0 (wr ((wr ((G 5 i0 1) * 6)) + 1)) x2) 6 i0 (wr ((wr ((G 5 i0 1) * 6)) + 2)) x3) 6 i0 (wr ((wr ((G 5 i0 1) * 6)) + 3)) x4) 6 i0 (wr ((wr ((G 5 i0 1) * 6)) + 4)) x5) 6 i0 (wr ((wr ((G 5 i0 1) * 6)) + 5)) x6) 5 i0 1) + 1))) 5 i0 1) - 1)) (up (up (up (up (up (up (up G 6 i0 (wr ((wr ((G 5 i0 1) * 6)) + 0)) x1) 6 i0 (wr ((wr ((G 5 i0 1) * 6)) + 1)) x2) 6 i0 (wr ((wr ((G 5 i0 1) * 6)) + 2)) x3) 6 i0 (wr ((wr ((G 5 i0 1) * 6)) + 3)) x4) 6 i0 (wr ((wr ((G 5 i0 1) * 6)) + 4)) x5) 6 i0 (wr ((wr ((G 5 i0 1) * 6)) + 5)) x6) 5 i0 1 (wr (((up (up (up (up (up (up G 6 i0 (wr ((wr ((G 5 i0 1) * 6)) + 0)) x1) 6 i0 (wr ((wr ((G 5 i0 1) * 6)) + 1)) x2) 6 i0 (wr ((wr ((G 5 i0 1) * 6)) + 2)) x3) 6 i0 (wr ((wr ((G 5 i0 1) * 6)) + 3)) x4) 6 i0 (wr ((wr ((G 5 i0 1) * 6)) + 4)) x5) 6 i0 (wr ((wr ((G 5 i0 1) * 6)) + 5)) x6) 5 i0 1) + 1)))
  else none
  else none
  else none
  else none
  else none
  else none := (run_fix _ _ _ _ _).trans rfl
set_option maxRecDepth 20000 in
theorem e_f_Arr_fill_OWN (i0 : Int) (x1 : Int) (G : GG) : f_Arr_fill_OWN i0 x1 G =
  l_Arr_fill_OWN_5 i0 x1 0 64 G := (run_fix _ _ _ _ _).trans rfl
set_option maxRecDepth 20000 in
theorem e_l_Arr_fill_OWN_5 (i0 : Int) (x1 : Int) (x2 : Int) (x3 : Int) (G : GG) : l_Arr_fill_OWN_5 i0 x1 x2 x3 G =
  if x2 < x3 then
    if 0 ≤ x2 ∧ x2 < 64 then
    l_Arr_fill_OWN_5 i0 x1 (wr (x2 + 1)) x3 (up G 8 i0 x2 x1)
    else none
  else
  rV G := (run_fix _ _ _ _ _).trans rfl
set_option maxRecDepth 20000 in
theorem e_f_Arr_fill_KIN (i0 : Int) (x1 : Int) (G : GG) : f_Arr_fill_KIN i0 x1 G =
  l_Arr_fill_KIN_5 i0 x1 0 16 G := (run_fix _ _ _ _ _).trans rfl
set_option maxRecDepth 20000 in
theorem e_l_Arr_fill_KIN_5 (i0 : Int) (x1 : Int) (x2 : Int) (x3 : Int) (G : GG) : l_Arr_fill_KIN_5 i0 x1 x2 x3 G =
  if x2 < x3 then
    if 0 ≤ x2 ∧ x2 < 16 then
    l_Arr_fill_KIN_5 i0 x1 (wr (x2 + 1)) x3 (up G 11 i0 x2 x1)
    else none
  else
  rV G := (run_fix _ _ _ _ _).trans rfl
set_option maxRecDepth 20000 in
theorem e_f_Lin_dropLightest (i0 : Int) (x1 : Int) (i2 : Int) (G : GG) : f_Lin_dropLightest i0 x1 i2 G =
  l_Lin_dropLightest_13 i0 x1 i2 (wr (x1 + 1)) (-1) (-1) 0 G := (run_fix _ _ _ _ _).trans rfl
set_option maxRecDepth 20000 in
theorem e_l_Lin_dropLightest_13 (i0 : Int) (x1 : Int) (i2 : Int) (x3 : Int) (x4 : Int) (x5 : Int) (x6 : Int) (G : GG) : l_Lin_dropLightest_13 i0 x1 i2 x3 x4 x5 x6 G =
  if x6 < G 2 i0 2 then
    l_Lin_dropLightest_25 i0 x1 i2 x3 x4 x5 x6 1 G
  else
  if x4 = (-1) then
    rI 0 G
  else
  bV (f_Lin_takeOutVertex i0 x4 x5 G) fun G1 =>
  rI 1 G1 := (run_fix _ _ _ _ _).trans rfl
set_option maxRecDepth 20000 in
theorem e_l_Lin_dropLightest_25 (i0 : Int) (x1 : Int) (i2 : Int) (x3 : Int) (x4 : Int) (x5 : Int) (x6 : Int) (x7 : Int) (G : GG) : l_Lin_dropLightest_25 i0 x1 i2 x3 x4 x5 x6 x7 G =
  if 0 ≤ x6 ∧ x6 < 6 then
  if x7 < wr ((G 4 i0 x6) - 1) then
    bI (f_Lin_weightOf i0 x6 x7 G) fun r2 G1 =>
    if r2 < x3 then
      bI (f_Lin_reasonOf i0 x6 x7 x1 i2 G1) fun r4 G3 =>
      if r4 = 0 then
        l_Lin_dropLightest_25 i0 x1 i2 r2 x6 x7 x6 (wr (x7 + 1)) G3
      else
      l_Lin_dropLightest_25 i0 x1 i2 x3 x4 x5 x6 (wr (x7 + 1)) G3
    else
    l_Lin_dropLightest_25 i0 x1 i2 x3 x4 x5 x6 (wr (x7 + 1)) G1
  else
  l_Lin_dropLightest_13 i0 x1 i2 x3 x4 x5 (wr (x6 + 1)) G
  else none := (run_fix _ _ _ _ _).trans rfl
set_option maxRecDepth 20000 in
theorem e_f_Lin_writeNumber (x0 : Int) (x2 : Int) (G : GG) : f_Lin_writeNumber x0 x2 G =
  if x0 < 10 then
    if 0 ≤ x2 ∧ x2 < 61 then
    if 0 ≤ iChr (wr (48 + (iRem x0 10))) ∧ iChr (wr (48 + (iRem x0 10))) < 65536 then
    rI (wr (x2 + 1)) (up G 24 0 x2 (iChr (wr (48 + (iRem x0 10)))))
    else none
    else none
  else
  if 0 ≤ x2 ∧ x2 < 61 then
  if 0 ≤ iChr (wr (48 + (iDiv x0 10))) ∧ iChr (wr (48 + (iDiv x0 10))) < 65536 then
  if 0 ≤ wr (x2 + 1) ∧ wr (x2 + 1) < 61 then
  if 0 ≤ iChr (wr (48 + (iRem x0 10))) ∧ iChr (wr (48 + (iRem x0 10))) < 65536 then
  rI (wr (wr (x2 + 1) + 1)) (up (up G 24 0 x2 (iChr (wr (48 + (iDiv x0 10))))) 24 0 (wr (x2 + 1)) (iChr (wr (48 + (iRem x0 10)))))
  else none
  else none
  else none
  else none := (run_fix _ _ _ _ _).trans rfl
set_option maxRecDepth 20000 in
theorem e_f_Scr_passEntry (G : GG) : f_Scr_passEntry  G =
  if (up G 21 0 5 0) 21 0 2 < (up G 21 0 5 0) 21 0 1 then
    if 0 ≤ (up G 21 0 5 0) 21 0 2 ∧ (up G 21 0 5 0) 21 0 2 < 60 then
    if 0 ≤ (up G 21 0 5 0) 22 0 ((up G 21 0 5 0) 21 0 2) ∧ (up G 21 0 5 0) 22 0 ((up G 21 0 5 0) 21 0 2) < 65536 then
    if (up (up G 21 0 5 0) 21 0 3 ((up G 21 0 5 0) 22 0 ((up G 21 0 5 0) 21 0 2))) 21 0 3 = 76 then
      bI (f_Scr_passVertices (up (up (up G 21 0 5 0) 21 0 3 ((up G 21 0 5 0) 22 0 ((up G 21 0 5 0) 21 0 2))) 21 0 2 (wr (((up (up G 21 0 5 0) 21 0 3 ((up G 21 0 5 0) 22 0 ((up G 21 0 5 0) 21 0 2))) 21 0 2) + 1)))) fun r2 G1 =>
      if r2 = 0 then
        rI 0 G1
      else
      bI (f_Scr_pass 59 G1) fun r4 G3 =>
      if r4 = 0 then
        rI 0 G3
      else
      rI 1 G3
    else
    if (up (up G 21 0 5 0) 21 0 3 ((up G 21 0 5 0) 22 0 ((up G 21 0 5 0) 21 0 2))) 21 0 3 = 80 then
      bI (f_Scr_passPosition (up (up (up G 21 0 5 0) 21 0 3 ((up G 21 0 5 0) 22 0 ((up G 21 0 5 0) 21 0 2))) 21 0 2 (wr (((up (up G 21 0 5 0) 21 0 3 ((up G 21 0 5 0) 22 0 ((up G 21 0 5 0) 21 0 2))) 21 0 2) + 1)))) fun r6 G5 =>
      if r6 = 0 then
        rI 0 G5
      else
      bI (f_Scr_pass 114 G5) fun r8 G7 =>
      if r8 = 0 then
        rI 0 G7
      else
      bI (f_Scr_passNumber 0 9 G7) fun r10 G9 =>
      if r10 = 0 then
        rI 0 G9
      else
      bI (f_Scr_pass 119 G9) fun r12 G11 =>
      if r12 = 0 then
        rI 0 G11
      else
      bI (f_Scr_passNumber 2 12 G11) fun r14 G13 =>
      if r14 = 0 then
        rI 0 G13
      else
      bI (f_Scr_pass 104 G13) fun r16 G15 =>
      if r16 = 0 then
        rI 0 G15
      else
      bI (f_Scr_passNumber 1 4 G15) fun r18 G17 =>
      if r18 = 0 then
        rI 0 G17
      else
      bI (f_Scr_pass 59 G17) fun r20 G19 =>
      if r20 = 0 then
        rI 0 G19
      else
      rI 1 G19
    else
    if (up (up G 21 0 5 0) 21 0 3 ((up G 21 0 5 0) 22 0 ((up G 21 0 5 0) 21 0 2))) 21 0 3 = 70 then
      bI (f_Scr_passNumber 0 7 (up (up (up G 21 0 5 0) 21 0 3 ((up G 21 0 5 0) 22 0 ((up G 21 0 5 0) 21 0 2))) 21 0 2 (wr (((up (up G 21 0 5 0) 21 0 3 ((up G 21 0 5 0) 22 0 ((up G 21 0 5 0) 21 0 2))) 21 0 2) + 1)))) fun r22 G21 =>
      if r22 = 0 then
        rI 0 G21
      else
      bI (f_Scr_passNumber 0 7 G21) fun r24 G23 =>
      if r24 = 0 then
        rI 0 G23
      else
      bI (f_Scr_pass 61 G23) fun r26 G25 =>
      if r26 = 0 then
        rI 0 G25
      else
      bI (f_Scr_passNumber 0 15 G25) fun r28 G27 =>
      if r28 = 0 then
        rI 0 G27
      else
      bI (f_Scr_pass 59 G27) fun r30 G29 =>
      if r30 = 0 then
        rI 0 G29
      else
      rI 1 G29
    else
    rI 0 (up (up G 21 0 5 0) 21 0 3 ((up G 21 0 5 0) 22 0 ((up G 21 0 5 0) 21 0 2)))
    else none
    else none
  else
  rI 0 (up G 21 0 5 0) := (run_fix _ _ _ _ _).trans rfl
set_option maxRecDepth 20000 in
theorem e_f_She_makeLine (i0 : Int) (x2 : Int) (G : GG) : f_She_makeLine i0 x2 G =
  bI (f_Lin_isSimple x2 G) fun r2 G1 =>
  if r2 = 0 then
    rI 1 G1
  else
  l_She_makeLine_12 i0 x2 0 G1 := (run_fix _ _ _ _ _).trans rfl
set_option maxRecDepth 20000 in
theorem e_l_She_makeLine_12 (i0 : Int) (x2 : Int) (x3 : Int) (G : GG) : l_She_makeLine_12 i0 x2 x3 G =
  if x3 < wr (x2 - 1) then
    if 0 ≤ x3 ∧ x3 < 11 then
    if 0 ≤ wr (x3 + 1) ∧ wr (x3 + 1) < 11 then
    bI (f_Lin_isMetBy i0 (G 23 0 x3) (G 23 0 (wr (x3 + 1))) G) fun r2 G1 =>
    if r2 = 0 then
      bI (f_Poi_isAnyOnSegment i0 (G 23 0 x3) (G 23 0 (wr (x3 + 1))) G1) fun r4 G3 =>
      if r4 = 0 then
        l_She_makeLine_12 i0 x2 (wr (x3 + 1)) G3
      else
      rI 1 G3
    else
    rI 1 G1
    else none
    else none
  else
  if G 2 i0 2 < 6 then
    bV (f_Lin_put i0 x2 G) fun G5 =>
    rI 0 G5
  else
  rI 2 G := (run_fix _ _ _ _ _).trans rfl
set_option maxRecDepth 20000 in
theorem e_f_She_makePoint (i0 : Int) (G : GG) : f_She_makePoint i0 G =
  bI (f_She_isTaken i0 (wr ((wr ((G 23 0 0) * 64)) + (G 23 0 1))) G) fun r2 G1 =>
  if r2 = 0 then
    if G1 5 i0 1 < 12 then
      bI (f_Poi_put i0 (G1 23 0 0) (G1 23 0 1) (G1 23 0 2) (G1 23 0 3) (G1 23 0 4) 0 G1) fun r4 G3 =>
      rI 0 G3
    else
    rI 2 G1
  else
  rI 2 G1 := (run_fix _ _ _ _ _).trans rfl
set_option maxRecDepth 20000 in
theorem e_f_Lab_placeAll (i0 : Int) (x1 : Int) (G : GG) : f_Lab_placeAll i0 x1 G =
  bV (f_Arr_fill_PLA i0 (-1) (up G 19 i0 3 x1)) fun G1 =>
  l_Lab_placeAll_16 i0 x1 9 G1 := (run_fix _ _ _ _ _).trans rfl
set_option maxRecDepth 20000 in
theorem e_l_Lab_placeAll_16 (i0 : Int) (x1 : Int) (x2 : Int) (G : GG) : l_Lab_placeAll_16 i0 x1 x2 G =
  if x2 < x1 then
    rV G
  else
  l_Lab_placeAll_23 i0 x1 x2 0 G := (run_fix _ _ _ _ _).trans rfl
set_option maxRecDepth 20000 in
theorem e_l_Lab_placeAll_23 (i0 : Int) (x1 : Int) (x2 : Int) (x3 : Int) (G : GG) : l_Lab_placeAll_23 i0 x1 x2 x3 G =
  if x3 < G 5 0 1 then
    bI (f_Poi_valueOf 0 x3 2 G) fun r2 G1 =>
    if r2 = x2 then
      bI (f_Lab_firstFree i0 x3 G1) fun r4 G3 =>
      if 0 ≤ x3 ∧ x3 < 12 then
      l_Lab_placeAll_23 i0 x1 x2 (wr (x3 + 1)) (up G3 20 i0 x3 r4)
      else none
    else
    l_Lab_placeAll_23 i0 x1 x2 (wr (x3 + 1)) G1
  else
  l_Lab_placeAll_16 i0 x1 (wr (x2 + (-1))) G := (run_fix _ _ _ _ _).trans rfl
set_option maxRecDepth 20000 in
theorem e_f_Lab_overlaps (i0 : Int) (x1 : Int) (x2 : Int) (x3 : Int) (x4 : Int) (x5 : Int) (G : GG) : f_Lab_overlaps i0 x1 x2 x3 x4 x5 G =
  if 0 ≤ x1 ∧ x1 < 12 then
  bI (f_Poi_leftOf 0 x1 (G 20 i0 x1) G) fun r2 G1 =>
  if 0 ≤ x1 ∧ x1 < 12 then
  bI (f_Poi_lowOf 0 x1 (G1 20 i0 x1) G1) fun r4 G3 =>
  if x4 < r2 then
    rI 0 G3
  else
  bI (f_Poi_valueOf 0 x1 3 G3) fun r6 G5 =>
  if x2 < wr (r2 + r6) then
    if x5 < r4 then
      rI 0 G5
    else
    bI (f_Poi_valueOf 0 x1 4 G5) fun r8 G7 =>
    if x3 < wr (r4 + r8) then
      rI 1 G7
    else
    rI 0 G7
  else
  rI 0 G5
  else none
  else none := (run_fix _ _ _ _ _).trans rfl
set_option maxRecDepth 20000 in
theorem e_f_Poi_leftOf (i0 : Int) (x1 : Int) (x2 : Int) (G : GG) : f_Poi_leftOf i0 x1 x2 G =
  if x2 = 0 then
    if 0 ≤ wr ((wr (x1 * 6)) + 0) ∧ wr ((wr (x1 * 6)) + 0) < 72 then
    rI (wr ((G 6 i0 (wr ((wr (x1 * 6)) + 0))) + 1)) G
    else none
  else
  if x2 = 3 then
    if 0 ≤ wr ((wr (x1 * 6)) + 0) ∧ wr ((wr (x1 * 6)) + 0) < 72 then
    rI (wr ((G 6 i0 (wr ((wr (x1 * 6)) + 0))) + 1)) G
    else none
  else
  if 0 ≤ wr ((wr (x1 * 6)) + 0) ∧ wr ((wr (x1 * 6)) + 0) < 72 then
  if 0 ≤ wr ((wr (x1 * 6)) + 3) ∧ wr ((wr (x1 * 6)) + 3) < 72 then
  rI (wr ((G 6 i0 (wr ((wr (x1 * 6)) + 0))) - (G 6 i0 (wr ((wr (x1 * 6)) + 3))))) G
  else none
  else none := (run_fix _ _ _ _ _).trans rfl
set_option maxRecDepth 20000 in
theorem e_f_Poi_lowOf (i0 : Int) (x1 : Int) (x2 : Int) (G : GG) : f_Poi_lowOf i0 x1 x2 G =
  if x2 = 0 then
    if 0 ≤ wr ((wr (x1 * 6)) + 1) ∧ wr ((wr (x1 * 6)) + 1) < 72 then
    rI (wr ((G 6 i0 (wr ((wr (x1 * 6)) + 1))) + 1)) G
    else none
  else
  if x2 = 1 then
    if 0 ≤ wr ((wr (x1 * 6)) + 1) ∧ wr ((wr (x1 * 6)) + 1) < 72 then
    rI (wr ((G 6 i0 (wr ((wr (x1 * 6)) + 1))) + 1)) G
    else none
  else
  if 0 ≤ wr ((wr (x1 * 6)) + 1) ∧ wr ((wr (x1 * 6)) + 1) < 72 then
  if 0 ≤ wr ((wr (x1 * 6)) + 4) ∧ wr ((wr (x1 * 6)) + 4) < 72 then
  rI (wr ((G 6 i0 (wr ((wr (x1 * 6)) + 1))) - (G 6 i0 (wr ((wr (x1 * 6)) + 4))))) G
  else none
  else none := (run_fix _ _ _ _ _).trans rfl
set_option maxRecDepth 20000 in
theorem e_f_Lab_coversShownPoint (i0 : Int) (x1 : Int) (x2 : Int) (x3 : Int) (x4 : Int) (G : GG) : f_Lab_coversShownPoint i0 x1 x2 x3 x4 G =
  l_Lab_coversShownPoint_3 i0 x1 x2 x3 x4 0 G := (run_fix _ _ _ _ _).trans rfl
set_option maxRecDepth 20000 in
theorem e_l_Lab_coversShownPoint_3 (i0 : Int) (x1 : Int) (x2 : Int) (x3 : Int) (x4 : Int) (x5 : Int) (G : GG) : l_Lab_coversShownPoint_3 i0 x1 x2 x3 x4 x5 G =
  if x5 < G 5 0 1 then
    bI (f_Poi_valueOf 0 x5 0 G) fun r2 G1 =>
    bI (f_Poi_valueOf 0 x5 1 G1) fun r4 G3 =>
    if r2 < x1 then
      l_Lab_coversShownPoint_3 i0 x1 x2 x3 x4 (wr (x5 + 1)) G3
    else
    if x3 < r2 then
      l_Lab_coversShownPoint_3 i0 x1 x2 x3 x4 (wr (x5 + 1)) G3
    else
    if r4 < x2 then
      l_Lab_coversShownPoint_3 i0 x1 x2 x3 x4 (wr (x5 + 1)) G3
    else
    if x4 < r4 then
      l_Lab_coversShownPoint_3 i0 x1 x2 x3 x4 (wr (x5 + 1)) G3
    else
    bI (f_Poi_valueOf 0 x5 2 G3) fun r6 G5 =>
    if r6 < G5 19 i0 3 then
      l_Lab_coversShownPoint_3 i0 x1 x2 x3 x4 (wr (x5 + 1)) G5
    else
    rI 1 G5
  else
  rI 0 G := (run_fix _ _ _ _ _).trans rfl
set_option maxRecDepth 20000 in
theorem e_f_Lab_isBefore (i0 : Int) (x1 : Int) (x2 : Int) (G : GG) : f_Lab_isBefore i0 x1 x2 G =
  bI (f_Poi_valueOf 0 x1 2 G) fun r2 G1 =>
  bI (f_Poi_valueOf 0 x2 2 G1) fun r4 G3 =>
  if 0 < wr (r2 - r4) then
    rI 1 G3
  else
  if wr (r2 - r4) = 0 then
    if x1 < x2 then
      rI 1 G3
    else
    rI 0 G3
  else
  rI 0 G3 := (run_fix _ _ _ _ _).trans rfl
set_option maxRecDepth 20000 in
theorem e_f_Lab_coversVertex (i0 : Int) (x1 : Int) (x2 : Int) (x3 : Int) (x4 : Int) (G : GG) : f_Lab_coversVertex i0 x1 x2 x3 x4 G =
  l_Lab_coversVertex_3 i0 x1 x2 x3 x4 0 G := (run_fix _ _ _ _ _).trans rfl
set_option maxRecDepth 20000 in
theorem e_l_Lab_coversVertex_3 (i0 : Int) (x1 : Int) (x2 : Int) (x3 : Int) (x4 : Int) (x5 : Int) (G : GG) : l_Lab_coversVertex_3 i0 x1 x2 x3 x4 x5 G =
  if x5 < G 2 (lix i0) 2 then
    l_Lab_coversVertex_18 i0 x1 x2 x3 x4 x5 0 G
  else
  rI 0 G := (run_fix _ _ _ _ _).trans rfl
set_option maxRecDepth 20000 in
theorem e_l_Lab_coversVertex_18 (i0 : Int) (x1 : Int) (x2 : Int) (x3 : Int) (x4 : Int) (x5 : Int) (x6 : Int) (G : GG) : l_Lab_coversVertex_18 i0 x1 x2 x3 x4 x5 x6 G =
  if 0 ≤ x5 ∧ x5 < 6 then
  if x6 < G 4 (lix i0) x5 then
    bI (f_Lin_codeOf (lix i0) x5 x6 G) fun r2 G1 =>
    if bShr r2 6 < x1 then
      l_Lab_coversVertex_18 i0 x1 x2 x3 x4 x5 (wr (x6 + 1)) G1
    else
    if x3 < bShr r2 6 then
      l_Lab_coversVertex_18 i0 x1 x2 x3 x4 x5 (wr (x6 + 1)) G1
    else
    if bAnd r2 63 < x2 then
      l_Lab_coversVertex_18 i0 x1 x2 x3 x4 x5 (wr (x6 + 1)) G1
    else
    if x4 < bAnd r2 63 then
      l_Lab_coversVertex_18 i0 x1 x2 x3 x4 x5 (wr (x6 + 1)) G1
    else
    rI 1 G1
  else
  l_Lab_coversVertex_3 i0 x1 x2 x3 x4 (wr (x5 + 1)) G
  else none := (run_fix _ _ _ _ _).trans rfl
set_option maxRecDepth 20000 in
theorem e_f_Par_mergeSmallest (i0 : Int) (x1 : Int) (i2 : Int) (x3 : Int) (G : GG) : f_Par_mergeSmallest i0 x1 i2 x3 G =
  bV (f_Par_measureAreas i0 G) fun G1 =>
  l_Par_mergeSmallest_16 i0 i2 x3 x1 (-1) (-1) 0 G1 := (run_fix _ _ _ _ _).trans rfl
set_option maxRecDepth 20000 in
theorem e_l_Par_mergeSmallest_16 (i0 : Int) (i2 : Int) (x3 : Int) (x4 : Int) (x5 : Int) (x6 : Int) (x7 : Int) (G : GG) : l_Par_mergeSmallest_16 i0 i2 x3 x4 x5 x6 x7 G =
  if x7 < 16 then
    if 0 ≤ x7 ∧ x7 < 16 then
    if 0 < G 10 i0 x7 then
      if 0 ≤ x7 ∧ x7 < 16 then
      if G 10 i0 x7 < x4 then
        bI (f_Par_heirOf i0 x7 i2 x3 G) fun r2 G1 =>
        if r2 = (-1) then
          l_Par_mergeSmallest_16 i0 i2 x3 x4 x5 x6 (wr (x7 + 1)) G1
        else
        if 0 ≤ x7 ∧ x7 < 16 then
        l_Par_mergeSmallest_16 i0 i2 x3 (G1 10 i0 x7) x7 r2 (wr (x7 + 1)) G1
        else none
      else
      l_Par_mergeSmallest_16 i0 i2 x3 x4 x5 x6 (wr (x7 + 1)) G
      else none
    else
    l_Par_mergeSmallest_16 i0 i2 x3 x4 x5 x6 (wr (x7 + 1)) G
    else none
  else
  if x5 = (-1) then
    rI 0 G
  else
  l_Par_mergeSmallest_95 i0 x5 x6 0 G := (run_fix _ _ _ _ _).trans rfl
set_option maxRecDepth 20000 in
theorem e_l_Par_mergeSmallest_95 (i0 : Int) (x5 : Int) (x6 : Int) (x7 : Int) (G : GG) : l_Par_mergeSmallest_95 i0 x5 x6 x7 G =
  if x7 < 64 then
    if 0 ≤ x7 ∧ x7 < 64 then
    if G 8 i0 x7 = x5 then
      if 0 ≤ x7 ∧ x7 < 64 then
      l_Par_mergeSmallest_95 i0 x5 x6 (wr (x7 + 1)) (up G 8 i0 x7 x6)
      else none
    else
    l_Par_mergeSmallest_95 i0 x5 x6 (wr (x7 + 1)) G
    else none
  else
  rI 1 G := (run_fix _ _ _ _ _).trans rfl
set_option maxRecDepth 20000 in
theorem e_f_Par_isOfKind (i0 : Int) (x1 : Int) (x2 : Int) (i3 : Int) (G : GG) : f_Par_isOfKind i0 x1 x2 i3 G =
  if 0 ≤ x1 ∧ x1 < 64 then
  if G 8 i0 x1 = (-1) then
    rI 0 G
  else
  if 0 ≤ G 8 i0 x1 ∧ G 8 i0 x1 < 16 then
  if G 11 i3 (G 8 i0 x1) = x2 then
    rI 1 G
  else
  rI 0 G
  else none
  else none := (run_fix _ _ _ _ _).trans rfl
set_option maxRecDepth 20000 in
theorem e_f_Par_measureAreas (i0 : Int) (G : GG) : f_Par_measureAreas i0 G =
  bV (f_Arr_fill_ARE i0 0 G) fun G1 =>
  l_Par_measureAreas_10 i0 0 G1 := (run_fix _ _ _ _ _).trans rfl
set_option maxRecDepth 20000 in
theorem e_l_Par_measureAreas_10 (i0 : Int) (x1 : Int) (G : GG) : l_Par_measureAreas_10 i0 x1 G =
  if x1 < 64 then
    if 0 ≤ x1 ∧ x1 < 64 then
    if G 8 i0 x1 = (-1) then
      l_Par_measureAreas_10 i0 (wr (x1 + 1)) G
    else
    if 0 ≤ x1 ∧ x1 < 64 then
    if 0 ≤ G 8 i0 x1 ∧ G 8 i0 x1 < 16 then
    if 0 ≤ G 8 i0 x1 ∧ G 8 i0 x1 < 16 then
    l_Par_measureAreas_10 i0 (wr (x1 + 1)) (up G 10 i0 (G 8 i0 x1) (wr ((G 10 i0 (G 8 i0 x1)) + 1)))
    else none
    else none
    else none
    else none
  else
  rV G := (run_fix _ _ _ _ _).trans rfl
set_option maxRecDepth 20000 in
theorem e_f_Arr_fill_BOR (i0 : Int) (x1 : Int) (G : GG) : f_Arr_fill_BOR i0 x1 G =
  l_Arr_fill_BOR_5 i0 x1 0 16 G := (run_fix _ _ _ _ _).trans rfl
set_option maxRecDepth 20000 in
theorem e_l_Arr_fill_BOR_5 (i0 : Int) (x1 : Int) (x2 : Int) (x3 : Int) (G : GG) : l_Arr_fill_BOR_5 i0 x1 x2 x3 G =
  if x2 < x3 then
    if 0 ≤ x2 ∧ x2 < 16 then
    l_Arr_fill_BOR_5 i0 x1 (wr (x2 + 1)) x3 (up G 9 i0 x2 x1)
    else none
  else
  rV G := (run_fix _ _ _ _ _).trans rfl
set_option maxRecDepth 20000 in
theorem e_f_Par_addToBorder (i0 : Int) (x1 : Int) (x2 : Int) (x3 : Int) (G : GG) : f_Par_addToBorder i0 x1 x2 x3 G =
  if x2 = x3 then
    rV G
  else
  if x2 = (-1) then
    rV G
  else
  if x3 = (-1) then
    rV G
  else
  if x2 = x1 then
    if 0 ≤ x3 ∧ x3 < 16 then
    if 0 ≤ x3 ∧ x3 < 16 then
    rV (up G 9 i0 x3 (wr ((G 9 i0 x3) + 1)))
    else none
    else none
  else
  if x3 = x1 then
    if 0 ≤ x2 ∧ x2 < 16 then
    if 0 ≤ x2 ∧ x2 < 16 then
    rV (up G 9 i0 x2 (wr ((G 9 i0 x2) + 1)))
    else none
    else none
  else
  rV G := (run_fix _ _ _ _ _).trans rfl
set_option maxRecDepth 20000 in
theorem e_f_Geo_isOnSegment (x0 : Int) (x1 : Int) (x2 : Int) (G : GG) : f_Geo_isOnSegment x0 x1 x2 G =
  if x0 < x1 then
    if x2 < x0 then
      rI 0 G
    else
    if x1 < x2 then
      rI 0 G
    else
    bI (f_Geo_turn x0 x1 x2 G) fun r2 G1 =>
    if r2 = 0 then
      rI 1 G1
    else
    rI 0 G1
  else
  if x2 < x1 then
    rI 0 G
  else
  if x0 < x2 then
    rI 0 G
  else
  bI (f_Geo_turn x0 x1 x2 G) fun r4 G3 =>
  if r4 = 0 then
    rI 1 G3
  else
  rI 0 G3 := (run_fix _ _ _ _ _).trans rfl
set_option maxRecDepth 20000 in
theorem e_f_Geo_turn (x0 : Int) (x1 : Int) (x2 : Int) (G : GG) : f_Geo_turn x0 x1 x2 G =
  rI (wr ((wr ((wr ((bShr x1 6) - (bShr x0 6))) * (wr ((bAnd x2 63) - (bAnd x0 63))))) - (wr ((wr ((bAnd x1 63) - (bAnd x0 63))) * (wr ((bShr x2 6) - (bShr x0 6))))))) G := (run_fix _ _ _ _ _).trans rfl
set_option maxRecDepth 20000 in
theorem e_f_Poi_isAnyInTriangle (i0 : Int) (x1 : Int) (x2 : Int) (x3 : Int) (G : GG) : f_Poi_isAnyInTriangle i0 x1 x2 x3 G =
  l_Poi_isAnyInTriangle_3 i0 x1 x2 x3 0 G := (run_fix _ _ _ _ _).trans rfl
set_option maxRecDepth 20000 in
theorem e_l_Poi_isAnyInTriangle_3 (i0 : Int) (x1 : Int) (x2 : Int) (x3 : Int) (x4 : Int) (G : GG) : l_Poi_isAnyInTriangle_3 i0 x1 x2 x3 x4 G =
  if x4 < G 5 i0 1 then
    bI (f_Poi_codeOf i0 x4 G) fun r2 G1 =>
    bI (f_Geo_turn x1 x2 r2 G1) fun r4 G3 =>
    bI (f_Geo_turn x2 x3 r2 G3) fun r6 G5 =>
    bI (f_Geo_turn x3 x1 r2 G5) fun r8 G7 =>
    if r4 < 0 then
      l_Poi_isAnyInTriangle_62 i0 x1 x2 x3 x4 r2 r4 r6 r8 G7
    else
    if r6 < 0 then
      l_Poi_isAnyInTriangle_62 i0 x1 x2 x3 x4 r2 r4 r6 r8 G7
    else
    if r8 < 0 then
      l_Poi_isAnyInTriangle_62 i0 x1 x2 x3 x4 r2 r4 r6 r8 G7
    else
    l_Poi_isAnyInTriangle_80 i0 x1 x2 x3 x4 r2 r4 r6 r8 G7
  else
  rI 0 G := (run_fix _ _ _ _ _).trans rfl
set_option maxRecDepth 20000 in
theorem e_l_Poi_isAnyInTriangle_62 (i0 : Int) (x1 : Int) (x2 : Int) (x3 : Int) (x4 : Int) (x5 : Int) (x6 : Int) (x7 : Int) (x8 : Int) (G : GG) : l_Poi_isAnyInTriangle_62 i0 x1 x2 x3 x4 x5 x6 x7 x8 G =
  if 0 < x6 then
    l_Poi_isAnyInTriangle_145 i0 x1 x2 x3 x4 G
  else
  if 0 < x7 then
    l_Poi_isAnyInTriangle_145 i0 x1 x2 x3 x4 G
  else
  if 0 < x8 then
    l_Poi_isAnyInTriangle_145 i0 x1 x2 x3 x4 G
  else
  l_Poi_isAnyInTriangle_80 i0 x1 x2 x3 x4 x5 x6 x7 x8 G := (run_fix _ _ _ _ _).trans rfl
set_option maxRecDepth 20000 in
theorem e_l_Poi_isAnyInTriangle_80 (i0 : Int) (x1 : Int) (x2 : Int) (x3 : Int) (x4 : Int) (x5 : Int) (x6 : Int) (x7 : Int) (x8 : Int) (G : GG) : l_Poi_isAnyInTriangle_80 i0 x1 x2 x3 x4 x5 x6 x7 x8 G =
  if x6 = 0 then
    if x7 = 0 then
      if x8 = 0 then
        l_Poi_isAnyInTriangle_100 i0 x1 x2 x3 x4 x5 1 G
      else
      l_Poi_isAnyInTriangle_100 i0 x1 x2 x3 x4 x5 0 G
    else
    l_Poi_isAnyInTriangle_100 i0 x1 x2 x3 x4 x5 0 G
  else
  l_Poi_isAnyInTriangle_100 i0 x1 x2 x3 x4 x5 0 G := (run_fix _ _ _ _ _).trans rfl
set_option maxRecDepth 20000 in
theorem e_l_Poi_isAnyInTriangle_100 (i0 : Int) (x1 : Int) (x2 : Int) (x3 : Int) (x4 : Int) (x5 : Int) (s0 : Int) (G : GG) : l_Poi_isAnyInTriangle_100 i0 x1 x2 x3 x4 x5 s0 G =
  if s0 = 0 then
    rI 1 G
  else
  if x5 < x1 then
    if x5 < x2 then
      if x5 < x3 then
        l_Poi_isAnyInTriangle_145 i0 x1 x2 x3 x4 G
      else
      if x1 < x5 then
        if x2 < x5 then
          if x3 < x5 then
            l_Poi_isAnyInTriangle_145 i0 x1 x2 x3 x4 G
          else
          rI 1 G
        else
        rI 1 G
      else
      rI 1 G
    else
    if x1 < x5 then
      if x2 < x5 then
        if x3 < x5 then
          l_Poi_isAnyInTriangle_145 i0 x1 x2 x3 x4 G
        else
        rI 1 G
      else
      rI 1 G
    else
    rI 1 G
  else
  if x1 < x5 then
    if x2 < x5 then
      if x3 < x5 then
        l_Poi_isAnyInTriangle_145 i0 x1 x2 x3 x4 G
      else
      rI 1 G
    else
    rI 1 G
  else
  rI 1 G := (run_fix _ _ _ _ _).trans rfl
set_option maxRecDepth 20000 in
theorem e_l_Poi_isAnyInTriangle_145 (i0 : Int) (x1 : Int) (x2 : Int) (x3 : Int) (x4 : Int) (G : GG) : l_Poi_isAnyInTriangle_145 i0 x1 x2 x3 x4 G =
  l_Poi_isAnyInTriangle_3 i0 x1 x2 x3 (wr (x4 + 1)) G := (run_fix _ _ _ _ _).trans rfl
set_option maxRecDepth 20000 in
theorem e_f_Lin_isClearWithout (i0 : Int) (x1 : Int) (x2 : Int) (G : GG) : f_Lin_isClearWithout i0 x1 x2 G =
  if 0 ≤ wr ((wr ((wr (x1 * 10)) + x2)) - 1) ∧ wr ((wr ((wr (x1 * 10)) + x2)) - 1) < 60 then
  if 0 ≤ wr ((wr ((wr (x1 * 10)) + x2)) + 1) ∧ wr ((wr ((wr (x1 * 10)) + x2)) + 1) < 60 then
  l_Lin_isClearWithout_30 i0 x1 x2 (wr ((wr (x1 * 10)) + x2)) (G 3 i0 (wr ((wr ((wr (x1 * 10)) + x2)) - 1))) (G 3 i0 (wr ((wr ((wr (x1 * 10)) + x2)) + 1))) 0 G
  else none
  else none := (run_fix _ _ _ _ _).trans rfl
set_option maxRecDepth 20000 in
theorem e_l_Lin_isClearWithout_30 (i0 : Int) (x1 : Int) (x2 : Int) (x3 : Int) (x4 : Int) (x5 : Int) (x6 : Int) (G : GG) : l_Lin_isClearWithout_30 i0 x1 x2 x3 x4 x5 x6 G =
  if x6 < G 2 i0 2 then
    l_Lin_isClearWithout_50 i0 x1 x2 x3 x4 x5 x6 (wr (x6 * 10)) (wr (x6 * 10)) G
  else
  if x2 < 2 then
    if 0 ≤ x1 ∧ x1 < 6 then
    if wr (x2 + 2) < G 4 i0 x1 then
      if 0 ≤ wr (x3 + 2) ∧ wr (x3 + 2) < 60 then
      bI (f_Geo_foldsBack x4 x5 (G 3 i0 (wr (x3 + 2))) G) fun r2 G1 =>
      if r2 = 0 then
        rI 1 G1
      else
      rI 0 G1
      else none
    else
    rI 1 G
    else none
  else
  if 0 ≤ wr (x3 - 2) ∧ wr (x3 - 2) < 60 then
  bI (f_Geo_foldsBack (G 3 i0 (wr (x3 - 2))) x4 x5 G) fun r4 G3 =>
  if r4 = 0 then
    if 0 ≤ x1 ∧ x1 < 6 then
    if wr (x2 + 2) < G3 4 i0 x1 then
      if 0 ≤ wr (x3 + 2) ∧ wr (x3 + 2) < 60 then
      bI (f_Geo_foldsBack x4 x5 (G3 3 i0 (wr (x3 + 2))) G3) fun r6 G5 =>
      if r6 = 0 then
        rI 1 G5
      else
      rI 0 G5
      else none
    else
    rI 1 G3
    else none
  else
  if 0 ≤ x1 ∧ x1 < 6 then
  if wr (x2 + 2) < G3 4 i0 x1 then
    if 0 ≤ wr (x3 + 2) ∧ wr (x3 + 2) < 60 then
    bI (f_Geo_foldsBack x4 x5 (G3 3 i0 (wr (x3 + 2))) G3) fun r8 G7 =>
    if r8 = 0 then
      rI 0 G7
    else
    rI 0 G7
    else none
  else
  rI 0 G3
  else none
  else none := (run_fix _ _ _ _ _).trans rfl
set_option maxRecDepth 20000 in
theorem e_l_Lin_isClearWithout_50 (i0 : Int) (x1 : Int) (x2 : Int) (x3 : Int) (x4 : Int) (x5 : Int) (x6 : Int) (x7 : Int) (x8 : Int) (G : GG) : l_Lin_isClearWithout_50 i0 x1 x2 x3 x4 x5 x6 x7 x8 G =
  if 0 ≤ x6 ∧ x6 < 6 then
  if x8 < wr ((wr (x7 + (G 4 i0 x6))) - 1) then
    if x6 = x1 then
      if x8 < wr (x3 - 2) then
        if 0 ≤ x8 ∧ x8 < 60 then
        if 0 ≤ wr (x8 + 1) ∧ wr (x8 + 1) < 60 then
        bI (f_Geo_meet x4 x5 (G 3 i0 x8) (G 3 i0 (wr (x8 + 1))) G) fun r2 G1 =>
        if r2 = 0 then
          l_Lin_isClearWithout_50 i0 x1 x2 x3 x4 x5 x6 x7 (wr (x8 + 1)) G1
        else
        rI 0 G1
        else none
        else none
      else
      if wr (x3 + 1) < x8 then
        if 0 ≤ x8 ∧ x8 < 60 then
        if 0 ≤ wr (x8 + 1) ∧ wr (x8 + 1) < 60 then
        bI (f_Geo_meet x4 x5 (G 3 i0 x8) (G 3 i0 (wr (x8 + 1))) G) fun r4 G3 =>
        if r4 = 0 then
          l_Lin_isClearWithout_50 i0 x1 x2 x3 x4 x5 x6 x7 (wr (x8 + 1)) G3
        else
        rI 0 G3
        else none
        else none
      else
      l_Lin_isClearWithout_50 i0 x1 x2 x3 x4 x5 x6 x7 (wr (x8 + 1)) G
    else
    if 0 ≤ x8 ∧ x8 < 60 then
    if 0 ≤ wr (x8 + 1) ∧ wr (x8 + 1) < 60 then
    bI (f_Geo_meet x4 x5 (G 3 i0 x8) (G 3 i0 (wr (x8 + 1))) G) fun r6 G5 =>
    if r6 = 0 then
      l_Lin_isClearWithout_50 i0 x1 x2 x3 x4 x5 x6 x7 (wr (x8 + 1)) G5
    else
    rI 0 G5
    else none
    else none
  else
  l_Lin_isClearWithout_30 i0 x1 x2 x3 x4 x5 (wr (x6 + 1)) G
  else none := (run_fix _ _ _ _ _).trans rfl
set_option maxRecDepth 20000 in
theorem e_f_Poi_isAnyAt (i0 : Int) (x1 : Int) (G : GG) : f_Poi_isAnyAt i0 x1 G =
  l_Poi_isAnyAt_2 i0 x1 0 G := (run_fix _ _ _ _ _).trans rfl
set_option maxRecDepth 20000 in
theorem e_l_Poi_isAnyAt_2 (i0 : Int) (x1 : Int) (x2 : Int) (G : GG) : l_Poi_isAnyAt_2 i0 x1 x2 G =
  if x2 < G 5 i0 1 then
    bI (f_Poi_codeOf i0 x2 G) fun r2 G1 =>
    if r2 = x1 then
      rI 1 G1
    else
    l_Poi_isAnyAt_2 i0 x1 (wr (x2 + 1)) G1
  else
  rI 0 G := (run_fix _ _ _ _ _).trans rfl
set_option maxRecDepth 20000 in
theorem e_f_Lin_takeOutVertex (i0 : Int) (x1 : Int) (x2 : Int) (G : GG) : f_Lin_takeOutVertex i0 x1 x2 G =
  if 0 ≤ x1 ∧ x1 < 6 then
  if ((0 : Int) ≤ wr ((wr ((wr (x1 * 10)) + x2)) + 1) ∧ (0 : Int) ≤ wr ((wr (x1 * 10)) + x2)) ∧ (0 ≤ wr ((wr ((G 4 i0 x1) - 1)) - x2) ∧ ((wr ((wr ((wr (x1 * 10)) + x2)) + 1)) + (wr ((wr ((G 4 i0 x1) - 1)) - x2)) ≤ 60 ∧ (wr ((wr (x1 * 10)) + x2)) + (wr ((wr ((G 4 i0 x1) - 1)) - x2)) ≤ 60)) then
  if 0 ≤ x1 ∧ x1 < 6 then
  if 0 ≤ x1 ∧ x1 < 6 then
  rV (up (cpy G 3 i0 (wr ((wr ((wr (x1 * 10)) + x2)) + 1)) 3 i0 (wr ((wr (x1 * 10)) + x2)) (wr ((wr ((G 4 i0 x1) - 1)) - x2))) 4 i0 x1 (wr (((cpy G 3 i0 (wr ((wr ((wr (x1 * 10)) + x2)) + 1)) 3 i0 (wr ((wr (x1 * 10)) + x2)) (wr ((wr ((G 4 i0 x1) - 1)) - x2))) 4 i0 x1) - 1)))
  else none
  else none
  else none
  else none := (run_fix _ _ _ _ _).trans rfl
set_option maxRecDepth 20000 in
theorem e_f_Scr_passVertices (G : GG) : f_Scr_passVertices  G =
  l_Scr_passVertices_2 0 G := (run_fix _ _ _ _ _).trans rfl
set_option maxRecDepth 20000 in
theorem e_l_Scr_passVertices_2 (x1 : Int) (G : GG) : l_Scr_passVertices_2 x1 G =
  if x1 < 10 then
    if 0 < x1 then
      bI (f_Scr_pass 45 G) fun r2 G1 =>
      if r2 = 0 then
        if x1 < 2 then
          rI 0 G1
        else
        rI 1 G1
      else
      bI (f_Scr_passPosition G1) fun r4 G3 =>
      if r4 = 0 then
        rI 0 G3
      else
      bV (f_Scr_joinCoordinates x1 G3) fun G5 =>
      l_Scr_passVertices_2 (wr (x1 + 1)) G5
    else
    bI (f_Scr_passPosition G) fun r7 G6 =>
    if r7 = 0 then
      rI 0 G6
    else
    bV (f_Scr_joinCoordinates x1 G6) fun G8 =>
    l_Scr_passVertices_2 (wr (x1 + 1)) G8
  else
  rI 1 G := (run_fix _ _ _ _ _).trans rfl
set_option maxRecDepth 20000 in
theorem e_f_Scr_pass (x1 : Int) (G : GG) : f_Scr_pass x1 G =
  if G 21 0 2 < G 21 0 1 then
    if 0 ≤ G 21 0 2 ∧ G 21 0 2 < 60 then
    if G 22 0 (G 21 0 2) = x1 then
      rI 1 (up G 21 0 2 (wr ((G 21 0 2) + 1)))
    else
    rI 0 G
    else none
  else
  rI 0 G := (run_fix _ _ _ _ _).trans rfl
set_option maxRecDepth 20000 in
theorem e_f_Scr_passPosition (G : GG) : f_Scr_passPosition  G =
  bI (f_Scr_passNumber 0 63 G) fun r2 G1 =>
  if r2 = 0 then
    rI 0 G1
  else
  bI (f_Scr_pass 44 G1) fun r4 G3 =>
  if r4 = 0 then
    rI 0 G3
  else
  bI (f_Scr_passNumber 0 63 G3) fun r6 G5 =>
  if r6 = 0 then
    rI 0 G5
  else
  rI 1 G5 := (run_fix _ _ _ _ _).trans rfl
set_option maxRecDepth 20000 in
theorem e_f_Scr_passNumber (x1 : Int) (x2 : Int) (G : GG) : f_Scr_passNumber x1 x2 G =
  bI (f_Scr_digitAt (G 21 0 2) G) fun r2 G1 =>
  if 0 < r2 then
    if x2 < wr (r2 * 10) then
      l_Scr_passNumber_37 x1 x2 r2 0 G1
    else
    if wr ((wr (r2 * 10)) + 9) < x1 then
      l_Scr_passNumber_37 x1 x2 r2 0 G1
    else
    l_Scr_passNumber_37 x1 x2 r2 1 G1
  else
  l_Scr_passNumber_37 x1 x2 r2 0 G1 := (run_fix _ _ _ _ _).trans rfl
set_option maxRecDepth 20000 in
theorem e_l_Scr_passNumber_37 (x1 : Int) (x2 : Int) (x3 : Int) (s0 : Int) (G : GG) : l_Scr_passNumber_37 x1 x2 x3 s0 G =
  if x3 = (-1) then
    rI 0 G
  else
  if s0 = 0 then
    bI (f_Map_isWithin x3 x1 x2 G) fun r2 G1 =>
    if r2 = 0 then
      rI 0 G1
    else
    l_Scr_passNumber_60 x1 x2 x3 s0 G1
  else
  l_Scr_passNumber_60 x1 x2 x3 s0 G := (run_fix _ _ _ _ _).trans rfl
set_option maxRecDepth 20000 in
theorem e_l_Scr_passNumber_60 (x1 : Int) (x2 : Int) (x3 : Int) (x4 : Int) (G : GG) : l_Scr_passNumber_60 x1 x2 x3 x4 G =
  if x4 = 0 then
    l_Scr_passNumber_90 x1 x2 x3 x3 (-1) (up G 21 0 2 (wr ((G 21 0 2) + 1)))
  else
  bI (f_Scr_digitAt ((up G 21 0 2 (wr ((G 21 0 2) + 1))) 21 0 2) (up G 21 0 2 (wr ((G 21 0 2) + 1)))) fun r2 G1 =>
  l_Scr_passNumber_90 x1 x2 x3 x3 r2 G1 := (run_fix _ _ _ _ _).trans rfl
set_option maxRecDepth 20000 in
theorem e_l_Scr_passNumber_90 (x1 : Int) (x2 : Int) (x3 : Int) (x5 : Int) (s0 : Int) (G : GG) : l_Scr_passNumber_90 x1 x2 x3 x5 s0 G =
  if s0 = (-1) then
    l_Scr_passNumber_132 x1 x2 x5 G
  else
  bI (f_Map_isWithin (wr ((wr (x3 * 10)) + s0)) x1 x2 G) fun r2 G1 =>
  if r2 = 0 then
    l_Scr_passNumber_132 x1 x2 x5 G1
  else
  l_Scr_passNumber_132 x1 x2 (wr ((wr (x3 * 10)) + s0)) (up G1 21 0 2 (wr ((G1 21 0 2) + 1))) := (run_fix _ _ _ _ _).trans rfl
set_option maxRecDepth 20000 in
theorem e_l_Scr_passNumber_132 (x1 : Int) (x2 : Int) (x5 : Int) (G : GG) : l_Scr_passNumber_132 x1 x2 x5 G =
  bI (f_Map_isWithin x5 x1 x2 G) fun r2 G1 =>
  if r2 = 0 then
    rI 0 G1
  else
  if G1 21 0 5 < 11 then
    if 0 ≤ G1 21 0 5 ∧ G1 21 0 5 < 11 then
    rI 1 (up (up G1 23 0 (G1 21 0 5) x5) 21 0 5 (wr (((up G1 23 0 (G1 21 0 5) x5) 21 0 5) + 1)))
    else none
  else
  rI 0 G1 := (run_fix _ _ _ _ _).trans rfl
set_option maxRecDepth 20000 in
theorem e_f_Lin_isSimple (x1 : Int) (G : GG) : f_Lin_isSimple x1 G =
  l_Lin_isSimple_2 x1 0 G := (run_fix _ _ _ _ _).trans rfl
set_option maxRecDepth 20000 in
theorem e_l_Lin_isSimple_2 (x1 : Int) (x2 : Int) (G : GG) : l_Lin_isSimple_2 x1 x2 G =
  if x2 < wr (x1 - 1) then
    if 0 ≤ x2 ∧ x2 < 11 then
    if 0 ≤ wr (x2 + 1) ∧ wr (x2 + 1) < 11 then
    if G 23 0 x2 = G 23 0 (wr (x2 + 1)) then
      rI 0 G
    else
    if wr (x2 + 2) < x1 then
      if 0 ≤ x2 ∧ x2 < 11 then
      if 0 ≤ wr (x2 + 1) ∧ wr (x2 + 1) < 11 then
      if 0 ≤ wr (x2 + 2) ∧ wr (x2 + 2) < 11 then
      bI (f_Geo_foldsBack (G 23 0 x2) (G 23 0 (wr (x2 + 1))) (G 23 0 (wr (x2 + 2))) G) fun r2 G1 =>
      if r2 = 0 then
        l_Lin_isSimple_54 x1 x2 (wr (x2 + 2)) G1
      else
      rI 0 G1
      else none
      else none
      else none
    else
    l_Lin_isSimple_54 x1 x2 (wr (x2 + 2)) G
    else none
    else none
  else
  rI 1 G := (run_fix _ _ _ _ _).trans rfl
set_option maxRecDepth 20000 in
theorem e_l_Lin_isSimple_54 (x1 : Int) (x2 : Int) (x3 : Int) (G : GG) : l_Lin_isSimple_54 x1 x2 x3 G =
  if x3 < wr (x1 - 1) then
    if 0 ≤ x2 ∧ x2 < 11 then
    if 0 ≤ wr (x2 + 1) ∧ wr (x2 + 1) < 11 then
    if 0 ≤ x3 ∧ x3 < 11 then
    if 0 ≤ wr (x3 + 1) ∧ wr (x3 + 1) < 11 then
    bI (f_Geo_meet (G 23 0 x2) (G 23 0 (wr (x2 + 1))) (G 23 0 x3) (G 23 0 (wr (x3 + 1))) G) fun r2 G1 =>
    if r2 = 0 then
      l_Lin_isSimple_54 x1 x2 (wr (x3 + 1)) G1
    else
    rI 0 G1
    else none
    else none
    else none
    else none
  else
  l_Lin_isSimple_2 x1 (wr (x2 + 1)) G := (run_fix _ _ _ _ _).trans rfl
set_option maxRecDepth 20000 in
theorem e_f_Lin_isMetBy (i0 : Int) (x1 : Int) (x2 : Int) (G : GG) : f_Lin_isMetBy i0 x1 x2 G =
  l_Lin_isMetBy_2 i0 x1 x2 0 G := (run_fix _ _ _ _ _).trans rfl
set_option maxRecDepth 20000 in
theorem e_l_Lin_isMetBy_2 (i0 : Int) (x1 : Int) (x2 : Int) (x3 : Int) (G : GG) : l_Lin_isMetBy_2 i0 x1 x2 x3 G =
  if x3 < G 2 i0 2 then
    l_Lin_isMetBy_20 i0 x1 x2 x3 (wr (x3 * 10)) (wr (x3 * 10)) G
  else
  rI 0 G := (run_fix _ _ _ _ _).trans rfl
set_option maxRecDepth 20000 in
theorem e_l_Lin_isMetBy_20 (i0 : Int) (x1 : Int) (x2 : Int) (x3 : Int) (x4 : Int) (x5 : Int) (G : GG) : l_Lin_isMetBy_20 i0 x1 x2 x3 x4 x5 G =
  if 0 ≤ x3 ∧ x3 < 6 then
  if x5 < wr ((wr (x4 + (G 4 i0 x3))) - 1) then
    if 0 ≤ x5 ∧ x5 < 60 then
    if 0 ≤ wr (x5 + 1) ∧ wr (x5 + 1) < 60 then
    bI (f_Geo_meet x1 x2 (G 3 i0 x5) (G 3 i0 (wr (x5 + 1))) G) fun r2 G1 =>
    if r2 = 0 then
      l_Lin_isMetBy_20 i0 x1 x2 x3 x4 (wr (x5 + 1)) G1
    else
    rI 1 G1
    else none
    else none
  else
  l_Lin_isMetBy_2 i0 x1 x2 (wr (x3 + 1)) G
  else none := (run_fix _ _ _ _ _).trans rfl
set_option maxRecDepth 20000 in
theorem e_f_Poi_isAnyOnSegment (i0 : Int) (x1 : Int) (x2 : Int) (G : GG) : f_Poi_isAnyOnSegment i0 x1 x2 G =
  l_Poi_isAnyOnSegment_2 i0 x1 x2 0 G := (run_fix _ _ _ _ _).trans rfl
set_option maxRecDepth 20000 in
theorem e_l_Poi_isAnyOnSegment_2 (i0 : Int) (x1 : Int) (x2 : Int) (x3 : Int) (G : GG) : l_Poi_isAnyOnSegment_2 i0 x1 x2 x3 G =
  if x3 < G 5 i0 1 then
    bI (f_Poi_codeOf i0 x3 G) fun r2 G1 =>
    bI (f_Geo_isOnSegment x1 x2 r2 G1) fun r4 G3 =>
    if r4 = 0 then
      l_Poi_isAnyOnSegment_2 i0 x1 x2 (wr (x3 + 1)) G3
    else
    rI 1 G3
  else
  rI 0 G := (run_fix _ _ _ _ _).trans rfl
set_option maxRecDepth 20000 in
theorem e_f_Lin_put (i0 : Int) (x2 : Int) (G : GG) : f_Lin_put i0 x2 G =
  if ((0 : Int) ≤ 0 ∧ (0 : Int) ≤ wr ((G 2 i0 2) * 10)) ∧ (0 ≤ x2 ∧ (0 + x2 ≤ 11 ∧ (wr ((G 2 i0 2) * 10)) + x2 ≤ 60)) then
  if 0 ≤ (cpy G 23 0 0 3 i0 (wr ((G 2 i0 2) * 10)) x2) 2 i0 2 ∧ (cpy G 23 0 0 3 i0 (wr ((G 2 i0 2) * 10)) x2) 2 i0 2 < 6 then
  rV (up (up (cpy G 23 0 0 3 i0 (wr ((G 2 i0 2) * 10)) x2) 4 i0 ((cpy G 23 0 0 3 i0 (wr ((G 2 i0 2) * 10)) x2) 2 i0 2) x2) 2 i0 2 (wr (((up (cpy G 23 0 0 3 i0 (wr ((G 2 i0 2) * 10)) x2) 4 i0 ((cpy G 23 0 0 3 i0 (wr ((G 2 i0 2) * 10)) x2) 2 i0 2) x2) 2 i0 2) + 1)))
  else none
  else none := (run_fix _ _ _ _ _).trans rfl
set_option maxRecDepth 20000 in
theorem e_f_Arr_fill_PLA (i0 : Int) (x1 : Int) (G : GG) : f_Arr_fill_PLA i0 x1 G =
  l_Arr_fill_PLA_5 i0 x1 0 12 G := (run_fix _ _ _ _ _).trans rfl
set_option maxRecDepth 20000 in
theorem e_l_Arr_fill_PLA_5 (i0 : Int) (x1 : Int) (x2 : Int) (x3 : Int) (G : GG) : l_Arr_fill_PLA_5 i0 x1 x2 x3 G =
  if x2 < x3 then
    if 0 ≤ x2 ∧ x2 < 12 then
    l_Arr_fill_PLA_5 i0 x1 (wr (x2 + 1)) x3 (up G 20 i0 x2 x1)
    else none
  else
  rV G := (run_fix _ _ _ _ _).trans rfl
set_option maxRecDepth 20000 in
theorem e_f_Lab_firstFree (i0 : Int) (x1 : Int) (G : GG) : f_Lab_firstFree i0 x1 G =
  bI (f_Poi_valueOf 0 x1 5 G) fun r2 G1 =>
  l_Lab_firstFree_12 i0 x1 r2 0 G1 := (run_fix _ _ _ _ _).trans rfl
set_option maxRecDepth 20000 in
theorem e_l_Lab_firstFree_12 (i0 : Int) (x1 : Int) (x2 : Int) (x3 : Int) (G : GG) : l_Lab_firstFree_12 i0 x1 x2 x3 G =
  if x3 < 4 then
    bI (f_Lab_reasonAgainst i0 x1 (iRem (wr (x2 + x3)) 4) G) fun r2 G1 =>
    if r2 = 0 then
      rI (iRem (wr (x2 + x3)) 4) G1
    else
    l_Lab_firstFree_12 i0 x1 x2 (wr (x3 + 1)) G1
  else
  rI (-1) G := (run_fix _ _ _ _ _).trans rfl
set_option maxRecDepth 20000 in
theorem e_f_Par_heirOf (i0 : Int) (x1 : Int) (i2 : Int) (x3 : Int) (G : GG) : f_Par_heirOf i0 x1 i2 x3 G =
  bV (f_Par_measureBorders i0 x1 G) fun G1 =>
  l_Par_heirOf_11 i0 x1 i2 x3 (-1) 0 G1 := (run_fix _ _ _ _ _).trans rfl
set_option maxRecDepth 20000 in
theorem e_l_Par_heirOf_11 (i0 : Int) (x1 : Int) (i2 : Int) (x3 : Int) (x4 : Int) (x5 : Int) (G : GG) : l_Par_heirOf_11 i0 x1 i2 x3 x4 x5 G =
  if x5 < 16 then
    if 0 ≤ x5 ∧ x5 < 16 then
    if 0 < G 9 i0 x5 then
      if x3 = 0 then
        if x4 = (-1) then
          l_Par_heirOf_11 i0 x1 i2 x3 x5 (wr (x5 + 1)) G
        else
        if 0 ≤ x1 ∧ x1 < 16 then
        bI (f_Par_isBetterHeir i0 x5 x4 i2 (G 11 i2 x1) G) fun r2 G1 =>
        if r2 = 0 then
          l_Par_heirOf_11 i0 x1 i2 x3 x4 (wr (x5 + 1)) G1
        else
        l_Par_heirOf_11 i0 x1 i2 x3 x5 (wr (x5 + 1)) G1
        else none
      else
      if 0 ≤ x5 ∧ x5 < 16 then
      if 0 ≤ x1 ∧ x1 < 16 then
      if G 11 i2 x5 = G 11 i2 x1 then
        if x4 = (-1) then
          l_Par_heirOf_11 i0 x1 i2 x3 x5 (wr (x5 + 1)) G
        else
        if 0 ≤ x1 ∧ x1 < 16 then
        bI (f_Par_isBetterHeir i0 x5 x4 i2 (G 11 i2 x1) G) fun r4 G3 =>
        if r4 = 0 then
          l_Par_heirOf_11 i0 x1 i2 x3 x4 (wr (x5 + 1)) G3
        else
        l_Par_heirOf_11 i0 x1 i2 x3 x5 (wr (x5 + 1)) G3
        else none
      else
      l_Par_heirOf_11 i0 x1 i2 x3 x4 (wr (x5 + 1)) G
      else none
      else none
    else
    l_Par_heirOf_11 i0 x1 i2 x3 x4 (wr (x5 + 1)) G
    else none
  else
  rI x4 G := (run_fix _ _ _ _ _).trans rfl
set_option maxRecDepth 20000 in
theorem e_f_Arr_fill_ARE (i0 : Int) (x1 : Int) (G : GG) : f_Arr_fill_ARE i0 x1 G =
  l_Arr_fill_ARE_5 i0 x1 0 16 G := (run_fix _ _ _ _ _).trans rfl
set_option maxRecDepth 20000 in
theorem e_l_Arr_fill_ARE_5 (i0 : Int) (x1 : Int) (x2 : Int) (x3 : Int) (G : GG) : l_Arr_fill_ARE_5 i0 x1 x2 x3 G =
  if x2 < x3 then
    if 0 ≤ x2 ∧ x2 < 16 then
    l_Arr_fill_ARE_5 i0 x1 (wr (x2 + 1)) x3 (up G 10 i0 x2 x1)
    else none
  else
  rV G := (run_fix _ _ _ _ _).trans rfl
set_option maxRecDepth 20000 in
theorem e_f_Poi_codeOf (i0 : Int) (x1 : Int) (G : GG) : f_Poi_codeOf i0 x1 G =
  if 0 ≤ wr ((wr (x1 * 6)) + 0) ∧ wr ((wr (x1 * 6)) + 0) < 72 then
  if 0 ≤ wr ((wr (x1 * 6)) + 1) ∧ wr ((wr (x1 * 6)) + 1) < 72 then
  rI (wr ((wr ((G 6 i0 (wr ((wr (x1 * 6)) + 0))) * 64)) + (G 6 i0 (wr ((wr (x1 * 6)) + 1))))) G
  else none
  else none := (run_fix _ _ _ _ _).trans rfl
set_option maxRecDepth 20000 in
theorem e_f_Geo_foldsBack (x0 : Int) (x1 : Int) (x2 : Int) (G : GG) : f_Geo_foldsBack x0 x1 x2 G =
  if wr ((wr ((bShr x0 6) - (bShr x1 6))) * (wr ((bAnd x2 63) - (bAnd x1 63)))) = wr ((wr ((bAnd x0 63) - (bAnd x1 63))) * (wr ((bShr x2 6) - (bShr x1 6)))) then
    if 0 < wr ((wr ((wr ((bShr x0 6) - (bShr x1 6))) * (wr ((bShr x2 6) - (bShr x1 6))))) + (wr ((wr ((bAnd x0 63) - (bAnd x1 63))) * (wr ((bAnd x2 63) - (bAnd x1 63)))))) then
      rI 1 G
    else
    rI 0 G
  else
  rI 0 G := (run_fix _ _ _ _ _).trans rfl
set_option maxRecDepth 20000 in
theorem e_f_Geo_meet (x0 : Int) (x1 : Int) (x2 : Int) (x3 : Int) (G : GG) : f_Geo_meet x0 x1 x2 x3 G =
  if x0 < x1 then
    if x2 < x3 then
      l_Geo_meet_20 x0 x1 x2 x3 x2 x1 G
    else
    l_Geo_meet_20 x0 x1 x2 x3 x3 x1 G
  else
  if x2 < x3 then
    l_Geo_meet_20 x0 x1 x2 x3 x2 x0 G
  else
  l_Geo_meet_20 x0 x1 x2 x3 x3 x0 G := (run_fix _ _ _ _ _).trans rfl
set_option maxRecDepth 20000 in
theorem e_l_Geo_meet_20 (x0 : Int) (x1 : Int) (x2 : Int) (x3 : Int) (s0 : Int) (s1 : Int) (G : GG) : l_Geo_meet_20 x0 x1 x2 x3 s0 s1 G =
  if s1 < s0 then
    rI 0 G
  else
  if x2 < x3 then
    if x0 < x1 then
      l_Geo_meet_43 x0 x1 x2 x3 x0 x3 G
    else
    l_Geo_meet_43 x0 x1 x2 x3 x1 x3 G
  else
  if x0 < x1 then
    l_Geo_meet_43 x0 x1 x2 x3 x0 x2 G
  else
  l_Geo_meet_43 x0 x1 x2 x3 x1 x2 G := (run_fix _ _ _ _ _).trans rfl
set_option maxRecDepth 20000 in
theorem e_l_Geo_meet_43 (x0 : Int) (x1 : Int) (x2 : Int) (x3 : Int) (s0 : Int) (s1 : Int) (G : GG) : l_Geo_meet_43 x0 x1 x2 x3 s0 s1 G =
  if s1 < s0 then
    rI 0 G
  else
  if 0 < wr ((wr ((wr ((wr ((bShr x1 6) - (bShr x0 6))) * (wr ((bAnd x2 63) - (bAnd x0 63))))) - (wr ((wr ((bAnd x1 63) - (bAnd x0 63))) * (wr ((bShr x2 6) - (bShr x0 6))))))) * (wr ((wr ((wr ((wr ((wr ((bShr x1 6) - (bShr x0 6))) * (wr ((bAnd x2 63) - (bAnd x0 63))))) - (wr ((wr ((bAnd x1 63) - (bAnd x0 63))) * (wr ((bShr x2 6) - (bShr x0 6))))))) + (wr ((wr ((bShr x1 6) - (bShr x0 6))) * (wr ((bAnd x3 63) - (bAnd x2 63))))))) - (wr ((wr ((bAnd x1 63) - (bAnd x0 63))) * (wr ((bShr x3 6) - (bShr x2 6)))))))) then
    rI 0 G
  else
  if 0 < wr ((wr ((wr ((wr ((bAnd x3 63) - (bAnd x2 63))) * (wr ((bShr x2 6) - (bShr x0 6))))) - (wr ((wr ((bShr x3 6) - (bShr x2 6))) * (wr ((bAnd x2 63) - (bAnd x0 63))))))) * (wr ((wr ((wr ((wr ((wr ((bAnd x3 63) - (bAnd x2 63))) * (wr ((bShr x2 6) - (bShr x0 6))))) - (wr ((wr ((bShr x3 6) - (bShr x2 6))) * (wr ((bAnd x2 63) - (bAnd x0 63))))))) + (wr ((wr ((bShr x3 6) - (bShr x2 6))) * (wr ((bAnd x1 63) - (bAnd x0 63))))))) - (wr ((wr ((bAnd x3 63) - (bAnd x2 63))) * (wr ((bShr x1 6) - (bShr x0 6)))))))) then
    rI 0 G
  else
  rI 1 G := (run_fix _ _ _ _ _).trans rfl
set_option maxRecDepth 20000 in
theorem e_f_Scr_joinCoordinates (x1 : Int) (G : GG) : f_Scr_joinCoordinates x1 G =
  if 0 ≤ x1 ∧ x1 < 11 then
  if 0 ≤ wr (x1 + 1) ∧ wr (x1 + 1) < 11 then
  if 0 ≤ x1 ∧ x1 < 11 then
  rV (up (up G 23 0 x1 (wr ((wr ((G 23 0 x1) * 64)) + (G 23 0 (wr (x1 + 1)))))) 21 0 5 (wr (x1 + 1)))
  else none
  else none
  else none := (run_fix _ _ _ _ _).trans rfl
set_option maxRecDepth 20000 in
theorem e_f_Scr_digitAt (x1 : Int) (G : GG) : f_Scr_digitAt x1 G =
  if x1 < G 21 0 1 then
    if 0 ≤ x1 ∧ x1 < 60 then
    if G 22 0 x1 < 48 then
      rI (-1) G
    else
    if 0 ≤ x1 ∧ x1 < 60 then
    if 57 < G 22 0 x1 then
      rI (-1) G
    else
    if 0 ≤ x1 ∧ x1 < 60 then
    rI (wr ((G 22 0 x1) - 48)) G
    else none
    else none
    else none
  else
  rI (-1) G := (run_fix _ _ _ _ _).trans rfl
set_option maxRecDepth 20000 in
theorem e_f_Par_isBetterHeir (i0 : Int) (x1 : Int) (x2 : Int) (i3 : Int) (x4 : Int) (G : GG) : f_Par_isBetterHeir i0 x1 x2 i3 x4 G =
  if 0 ≤ x1 ∧ x1 < 16 then
  if G 11 i3 x1 = x4 then
    if 0 ≤ x2 ∧ x2 < 16 then
    if G 11 i3 x2 = x4 then
      if 0 ≤ x1 ∧ x1 < 16 then
      if 0 ≤ x2 ∧ x2 < 16 then
      if G 9 i0 x1 = G 9 i0 x2 then
        if 0 ≤ x1 ∧ x1 < 16 then
        if 0 ≤ x2 ∧ x2 < 16 then
        if G 10 i0 x2 < G 10 i0 x1 then
          rI 1 G
        else
        rI 0 G
        else none
        else none
      else
      if 0 ≤ x1 ∧ x1 < 16 then
      if 0 ≤ x2 ∧ x2 < 16 then
      if G 9 i0 x2 < G 9 i0 x1 then
        rI 1 G
      else
      rI 0 G
      else none
      else none
      else none
      else none
    else
    rI 1 G
    else none
  else
  if 0 ≤ x2 ∧ x2 < 16 then
  if G 11 i3 x2 = x4 then
    rI 0 G
  else
  if 0 ≤ x1 ∧ x1 < 16 then
  if 0 ≤ x2 ∧ x2 < 16 then
  if G 9 i0 x1 = G 9 i0 x2 then
    if 0 ≤ x1 ∧ x1 < 16 then
    if 0 ≤ x2 ∧ x2 < 16 then
    if G 10 i0 x2 < G 10 i0 x1 then
      rI 1 G
    else
    rI 0 G
    else none
    else none
  else
  if 0 ≤ x1 ∧ x1 < 16 then
  if 0 ≤ x2 ∧ x2 < 16 then
  if G 9 i0 x2 < G 9 i0 x1 then
    rI 1 G
  else
  rI 0 G
  else none
  else none
  else none
  else none
  else none
  else none := (run_fix _ _ _ _ _).trans rfl
