set_option maxRecDepth 100000 in
theorem dl_2615 : (List.range' 2615 41).all (ckD 302) = true := by decide +kernel
set_option maxRecDepth 100000 in
theorem dl_2656 : (List.range' 2656 41).all (ckD 302) = true := by decide +kernel
set_option maxRecDepth 100000 in
theorem dl_2697 : (List.range' 2697 42).all (ckD 302) = true := by decide +kernel
set_option maxRecDepth 100000 in
theorem dl_2739 : (List.range' 2739 41).all (ckD 302) = true := by decide +kernel
set_option maxRecDepth 100000 in
theorem dl_2780 : (List.range' 2780 35).all (ckD 302) = true := by decide +kernel
set_option maxRecDepth 100000 in
theorem dl_2815 : (List.range' 2815 44).all (ckD 302) = true := by decide +kernel
set_option maxRecDepth 100000 in
theorem dl_2859 : (List.range' 2859 44).all (ckD 302) = true := by decide +kernel
set_option maxRecDepth 100000 in
theorem dl_2903 : (List.range' 2903 42).all (ckD 302) = true := by decide +kernel
set_option maxRecDepth 100000 in
theorem dl_2945 : (List.range' 2945 32).all (ckD 302) = true := by decide +kernel
set_option maxRecDepth 100000 in
theorem dl_2977 : (List.range' 2977 42).all (ckD 302) = true := by decide +kernel
set_option maxRecDepth 100000 in
theorem dl_3019 : (List.range' 3019 44).all (ckD 302) = true := by decide +kernel
set_option maxRecDepth 100000 in
theorem dl_3063 : (List.range' 3063 45).all (ckD 302) = true := by decide +kernel
set_option maxRecDepth 100000 in
theorem dl_3108 : (List.range' 3108 20).all (ckD 302) = true := by decide +kernel
theorem dk_law : ∀ pc i len, 28 ≤ pc → cd 302 pc = some (i, len) → decode (byt 302) pc = .ok (i, len) ∧ iok i len = true := by
  intro pc i len hge hc
  have hp : pc < 3128 := blt_guard (n := 3128) (x := _) (show cd 302 pc ≠ none by rw [hc]; exact fun z => by cases z)
  have h1 : ckD 302 pc = true := by
    by_cases h28 : pc < 256
    · exact List.all_eq_true.mp dl_28 pc (List.mem_range'_1.mpr ⟨by omega, by omega⟩)
    by_cases h256 : pc < 287
    · exact List.all_eq_true.mp dl_256 pc (List.mem_range'_1.mpr ⟨by omega, by omega⟩)
    by_cases h287 : pc < 319
    · exact List.all_eq_true.mp dl_287 pc (List.mem_range'_1.mpr ⟨by omega, by omega⟩)
    by_cases h319 : pc < 359
    · exact List.all_eq_true.mp dl_319 pc (List.mem_range'_1.mpr ⟨by omega, by omega⟩)
    by_cases h359 : pc < 401
    · exact List.all_eq_true.mp dl_359 pc (List.mem_range'_1.mpr ⟨by omega, by omega⟩)
    by_cases h401 : pc < 438
    · exact List.all_eq_true.mp dl_401 pc (List.mem_range'_1.mpr ⟨by omega, by omega⟩)
    by_cases h438 : pc < 480
    · exact List.all_eq_true.mp dl_438 pc (List.mem_range'_1.mpr ⟨by omega, by omega⟩)
    by_cases h480 : pc < 514
    · exact List.all_eq_true.mp dl_480 pc (List.mem_range'_1.mpr ⟨by omega, by omega⟩)
    by_cases h514 : pc < 554
    · exact List.all_eq_true.mp dl_514 pc (List.mem_range'_1.mpr ⟨by omega, by omega⟩)
    by_cases h554 : pc < 586
    · exact List.all_eq_true.mp dl_554 pc (List.mem_range'_1.mpr ⟨by omega, by omega⟩)
    by_cases h586 : pc < 618
    · exact List.all_eq_true.mp dl_586 pc (List.mem_range'_1.mpr ⟨by omega, by omega⟩)
    by_cases h618 : pc < 658
    · exact List.all_eq_true.mp dl_618 pc (List.mem_range'_1.mpr ⟨by omega, by omega⟩)
    by_cases h658 : pc < 697
    · exact List.all_eq_true.mp dl_658 pc (List.mem_range'_1.mpr ⟨by omega, by omega⟩)
    by_cases h697 : pc < 737
    · exact List.all_eq_true.mp dl_697 pc (List.mem_range'_1.mpr ⟨by omega, by omega⟩)
    by_cases h737 : pc < 773
    · exact List.all_eq_true.mp dl_737 pc (List.mem_range'_1.mpr ⟨by omega, by omega⟩)
    by_cases h773 : pc < 807
    · exact List.all_eq_true.mp dl_773 pc (List.mem_range'_1.mpr ⟨by omega, by omega⟩)
    by_cases h807 : pc < 847
    · exact List.all_eq_true.mp dl_807 pc (List.mem_range'_1.mpr ⟨by omega, by omega⟩)
    by_cases h847 : pc < 886
    · exact List.all_eq_true.mp dl_847 pc (List.mem_range'_1.mpr ⟨by omega, by omega⟩)
    by_cases h886 : pc < 923
    · exact List.all_eq_true.mp dl_886 pc (List.mem_range'_1.mpr ⟨by omega, by omega⟩)
    by_cases h923 : pc < 965
    · exact List.all_eq_true.mp dl_923 pc (List.mem_range'_1.mpr ⟨by omega, by omega⟩)
    by_cases h965 : pc < 999
    · exact List.all_eq_true.mp dl_965 pc (List.mem_range'_1.mpr ⟨by omega, by omega⟩)
    by_cases h999 : pc < 1039
    · exact List.all_eq_true.mp dl_999 pc (List.mem_range'_1.mpr ⟨by omega, by omega⟩)
    by_cases h1039 : pc < 1078
    · exact List.all_eq_true.mp dl_1039 pc (List.mem_range'_1.mpr ⟨by omega, by omega⟩)
    by_cases h1078 : pc < 1113
    · exact List.all_eq_true.mp dl_1078 pc (List.mem_range'_1.mpr ⟨by omega, by omega⟩)
    by_cases h1113 : pc < 1149
    · exact List.all_eq_true.mp dl_1113 pc (List.mem_range'_1.mpr ⟨by omega, by omega⟩)
    by_cases h1149 : pc < 1188
    · exact List.all_eq_true.mp dl_1149 pc (List.mem_range'_1.mpr ⟨by omega, by omega⟩)
    by_cases h1188 : pc < 1225
    · exact List.all_eq_true.mp dl_1188 pc (List.mem_range'_1.mpr ⟨by omega, by omega⟩)
    by_cases h1225 : pc < 1264
    · exact List.all_eq_true.mp dl_1225 pc (List.mem_range'_1.mpr ⟨by omega, by omega⟩)
    by_cases h1264 : pc < 1299
    · exact List.all_eq_true.mp dl_1264 pc (List.mem_range'_1.mpr ⟨by omega, by omega⟩)
    by_cases h1299 : pc < 1336
    · exact List.all_eq_true.mp dl_1299 pc (List.mem_range'_1.mpr ⟨by omega, by omega⟩)
    by_cases h1336 : pc < 1372
    · exact List.all_eq_true.mp dl_1336 pc (List.mem_range'_1.mpr ⟨by omega, by omega⟩)
    by_cases h1372 : pc < 1406
    · exact List.all_eq_true.mp dl_1372 pc (List.mem_range'_1.mpr ⟨by omega, by omega⟩)
    by_cases h1406 : pc < 1446
    · exact List.all_eq_true.mp dl_1406 pc (List.mem_range'_1.mpr ⟨by omega, by omega⟩)
    by_cases h1446 : pc < 1484
    · exact List.all_eq_true.mp dl_1446 pc (List.mem_range'_1.mpr ⟨by omega, by omega⟩)
    by_cases h1484 : pc < 1521
    · exact List.all_eq_true.mp dl_1484 pc (List.mem_range'_1.mpr ⟨by omega, by omega⟩)
    by_cases h1521 : pc < 1560
    · exact List.all_eq_true.mp dl_1521 pc (List.mem_range'_1.mpr ⟨by omega, by omega⟩)
    by_cases h1560 : pc < 1598
    · exact List.all_eq_true.mp dl_1560 pc (List.mem_range'_1.mpr ⟨by omega, by omega⟩)
    by_cases h1598 : pc < 1638
    · exact List.all_eq_true.mp dl_1598 pc (List.mem_range'_1.mpr ⟨by omega, by omega⟩)
    by_cases h1638 : pc < 1670
    · exact List.all_eq_true.mp dl_1638 pc (List.mem_range'_1.mpr ⟨by omega, by omega⟩)
    by_cases h1670 : pc < 1712
    · exact List.all_eq_true.mp dl_1670 pc (List.mem_range'_1.mpr ⟨by omega, by omega⟩)
    by_cases h1712 : pc < 1744
    · exact List.all_eq_true.mp dl_1712 pc (List.mem_range'_1.mpr ⟨by omega, by omega⟩)
    by_cases h1744 : pc < 1784
    · exact List.all_eq_true.mp dl_1744 pc (List.mem_range'_1.mpr ⟨by omega, by omega⟩)
    by_cases h1784 : pc < 1818
    · exact List.all_eq_true.mp dl_1784 pc (List.mem_range'_1.mpr ⟨by omega, by omega⟩)
    by_cases h1818 : pc < 1860
    · exact List.all_eq_true.mp dl_1818 pc (List.mem_range'_1.mpr ⟨by omega, by omega⟩)
    by_cases h1860 : pc < 1892
    · exact List.all_eq_true.mp dl_1860 pc (List.mem_range'_1.mpr ⟨by omega, by omega⟩)
    by_cases h1892 : pc < 1932
    · exact List.all_eq_true.mp dl_1892 pc (List.mem_range'_1.mpr ⟨by omega, by omega⟩)
    by_cases h1932 : pc < 1966
    · exact List.all_eq_true.mp dl_1932 pc (List.mem_range'_1.mpr ⟨by omega, by omega⟩)
    by_cases h1966 : pc < 2008
    · exact List.all_eq_true.mp dl_1966 pc (List.mem_range'_1.mpr ⟨by omega, by omega⟩)
    by_cases h2008 : pc < 2042
    · exact List.all_eq_true.mp dl_2008 pc (List.mem_range'_1.mpr ⟨by omega, by omega⟩)
    by_cases h2042 : pc < 2082
    · exact List.all_eq_true.mp dl_2042 pc (List.mem_range'_1.mpr ⟨by omega, by omega⟩)
    by_cases h2082 : pc < 2120
    · exact List.all_eq_true.mp dl_2082 pc (List.mem_range'_1.mpr ⟨by omega, by omega⟩)
    by_cases h2120 : pc < 2158
    · exact List.all_eq_true.mp dl_2120 pc (List.mem_range'_1.mpr ⟨by omega, by omega⟩)
    by_cases h2158 : pc < 2200
    · exact List.all_eq_true.mp dl_2158 pc (List.mem_range'_1.mpr ⟨by omega, by omega⟩)
    by_cases h2200 : pc < 2234
    · exact List.all_eq_true.mp dl_2200 pc (List.mem_range'_1.mpr ⟨by omega, by omega⟩)
    by_cases h2234 : pc < 2275
    · exact List.all_eq_true.mp dl_2234 pc (List.mem_range'_1.mpr ⟨by omega, by omega⟩)
    by_cases h2275 : pc < 2316
    · exact List.all_eq_true.mp dl_2275 pc (List.mem_range'_1.mpr ⟨by omega, by omega⟩)
    by_cases h2316 : pc < 2350
    · exact List.all_eq_true.mp dl_2316 pc (List.mem_range'_1.mpr ⟨by omega, by omega⟩)
    by_cases h2350 : pc < 2392
    · exact List.all_eq_true.mp dl_2350 pc (List.mem_range'_1.mpr ⟨by omega, by omega⟩)
    by_cases h2392 : pc < 2424
    · exact List.all_eq_true.mp dl_2392 pc (List.mem_range'_1.mpr ⟨by omega, by omega⟩)
    by_cases h2424 : pc < 2464
    · exact List.all_eq_true.mp dl_2424 pc (List.mem_range'_1.mpr ⟨by omega, by omega⟩)
    by_cases h2464 : pc < 2504
    · exact List.all_eq_true.mp dl_2464 pc (List.mem_range'_1.mpr ⟨by omega, by omega⟩)
    by_cases h2504 : pc < 2540
    · exact List.all_eq_true.mp dl_2504 pc (List.mem_range'_1.mpr ⟨by omega, by omega⟩)
    by_cases h2540 : pc < 2574
    · exact List.all_eq_true.mp dl_2540 pc (List.mem_range'_1.mpr ⟨by omega, by omega⟩)
    by_cases h2574 : pc < 2615
    · exact List.all_eq_true.mp dl_2574 pc (List.mem_range'_1.mpr ⟨by omega, by omega⟩)
    by_cases h2615 : pc < 2656
    · exact List.all_eq_true.mp dl_2615 pc (List.mem_range'_1.mpr ⟨by omega, by omega⟩)
    by_cases h2656 : pc < 2697
    · exact List.all_eq_true.mp dl_2656 pc (List.mem_range'_1.mpr ⟨by omega, by omega⟩)
    by_cases h2697 : pc < 2739
    · exact List.all_eq_true.mp dl_2697 pc (List.mem_range'_1.mpr ⟨by omega, by omega⟩)
    by_cases h2739 : pc < 2780
    · exact List.all_eq_true.mp dl_2739 pc (List.mem_range'_1.mpr ⟨by omega, by omega⟩)
    by_cases h2780 : pc < 2815
    · exact List.all_eq_true.mp dl_2780 pc (List.mem_range'_1.mpr ⟨by omega, by omega⟩)
    by_cases h2815 : pc < 2859
    · exact List.all_eq_true.mp dl_2815 pc (List.mem_range'_1.mpr ⟨by omega, by omega⟩)
    by_cases h2859 : pc < 2903
    · exact List.all_eq_true.mp dl_2859 pc (List.mem_range'_1.mpr ⟨by omega, by omega⟩)
    by_cases h2903 : pc < 2945
    · exact List.all_eq_true.mp dl_2903 pc (List.mem_range'_1.mpr ⟨by omega, by omega⟩)
    by_cases h2945 : pc < 2977
    · exact List.all_eq_true.mp dl_2945 pc (List.mem_range'_1.mpr ⟨by omega, by omega⟩)
    by_cases h2977 : pc < 3019
    · exact List.all_eq_true.mp dl_2977 pc (List.mem_range'_1.mpr ⟨by omega, by omega⟩)
    by_cases h3019 : pc < 3063
    · exact List.all_eq_true.mp dl_3019 pc (List.mem_range'_1.mpr ⟨by omega, by omega⟩)
    by_cases h3063 : pc < 3108
    · exact List.all_eq_true.mp dl_3063 pc (List.mem_range'_1.mpr ⟨by omega, by omega⟩)
    by_cases h3108 : pc < 3128
    · exact List.all_eq_true.mp dl_3108 pc (List.mem_range'_1.mpr ⟨by omega, by omega⟩)
    omega
  unfold ckD at h1
  rw [hc] at h1
  simpa only [Bool.and_eq_true, decide_eq_true_eq] using h1
