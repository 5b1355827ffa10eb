set_option maxRecDepth 100000 in
theorem dl_0 : (List.range' 0 28).all (ckD 302) = true := by decide +kernel
theorem dk_law_all : DK 302 := by
  intro pc i len hc
  by_cases h : 28 ≤ pc
  · exact dk_law pc i len h hc
  · have h1 := List.all_eq_true.mp dl_0 pc (List.mem_range'_1.mpr ⟨by omega, by omega⟩)
    unfold ckD at h1
    rw [hc] at h1
    simpa only [Bool.and_eq_true, decide_eq_true_eq] using h1
