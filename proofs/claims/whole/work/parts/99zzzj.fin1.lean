/-! ===== the parts of the world are parts of one ===== -/
theorem wf_S0 {ad0 : Nat → Int → Nat} {cA : Nat → ClassId} {g : GG} {q qh ah ql qs s1 s2 tx ou od : Nat} {v0 v1 v2 vl vm : List Nat} {vh : Nat → List Nat} : Wl (csS 0) (adL ad0 1 v0) cA (GSh g 0) = Wl (csS 0) (adF ad0 q v0 v1 v2 vl vm vh qh ah ql qs s1 s2 tx ou od) cA (Gfin g) := by
  refine Wl_cong (fun c hc => ?_)
  simp only [csS, List.mem_cons, List.not_mem_nil, or_false] at hc
  rcases hc with rfl | rfl | rfl | rfl | rfl | rfl | rfl | rfl | rfl | rfl | rfl | rfl
  all_goals rfl
theorem wf_S1 {ad0 : Nat → Int → Nat} {cA : Nat → ClassId} {g : GG} {q qh ah ql qs s1 s2 tx ou od : Nat} {v0 v1 v2 vl vm : List Nat} {vh : Nat → List Nat} : Wl (csS 1) (adL ad0 1 v1) cA (GSh g 1) = Wl (csS 1) (adF ad0 q v0 v1 v2 vl vm vh qh ah ql qs s1 s2 tx ou od) cA (Gfin g) := by
  refine Wl_cong (fun c hc => ?_)
  simp only [csS, List.mem_cons, List.not_mem_nil, or_false] at hc
  rcases hc with rfl | rfl | rfl | rfl | rfl | rfl | rfl | rfl | rfl | rfl | rfl | rfl
  all_goals rfl
theorem wf_S2 {ad0 : Nat → Int → Nat} {cA : Nat → ClassId} {g : GG} {q qh ah ql qs s1 s2 tx ou od : Nat} {v0 v1 v2 vl vm : List Nat} {vh : Nat → List Nat} : Wl (csS 2) (adL ad0 1 v2) cA (GSh g 2) = Wl (csS 2) (adF ad0 q v0 v1 v2 vl vm vh qh ah ql qs s1 s2 tx ou od) cA (Gfin g) := by
  refine Wl_cong (fun c hc => ?_)
  simp only [csS, List.mem_cons, List.not_mem_nil, or_false] at hc
  rcases hc with rfl | rfl | rfl | rfl | rfl | rfl | rfl | rfl | rfl | rfl | rfl | rfl
  all_goals rfl
theorem wf_S3 {ad0 : Nat → Int → Nat} {cA : Nat → ClassId} {g : GG} {q qh ah ql qs s1 s2 tx ou od : Nat} {v0 v1 v2 vl vm : List Nat} {vh : Nat → List Nat} : Wl (csS 3) (adL ad0 1 (vh 0)) cA (GSh g 3) = Wl (csS 3) (adF ad0 q v0 v1 v2 vl vm vh qh ah ql qs s1 s2 tx ou od) cA (Gfin g) := by
  refine Wl_cong (fun c hc => ?_)
  simp only [csS, List.mem_cons, List.not_mem_nil, or_false] at hc
  rcases hc with rfl | rfl | rfl | rfl | rfl | rfl | rfl | rfl | rfl | rfl | rfl | rfl
  all_goals rfl
theorem wf_S4 {ad0 : Nat → Int → Nat} {cA : Nat → ClassId} {g : GG} {q qh ah ql qs s1 s2 tx ou od : Nat} {v0 v1 v2 vl vm : List Nat} {vh : Nat → List Nat} : Wl (csS 4) (adL ad0 1 (vh 1)) cA (GSh g 4) = Wl (csS 4) (adF ad0 q v0 v1 v2 vl vm vh qh ah ql qs s1 s2 tx ou od) cA (Gfin g) := by
  refine Wl_cong (fun c hc => ?_)
  simp only [csS, List.mem_cons, List.not_mem_nil, or_false] at hc
  rcases hc with rfl | rfl | rfl | rfl | rfl | rfl | rfl | rfl | rfl | rfl | rfl | rfl
  all_goals rfl
theorem wf_S5 {ad0 : Nat → Int → Nat} {cA : Nat → ClassId} {g : GG} {q qh ah ql qs s1 s2 tx ou od : Nat} {v0 v1 v2 vl vm : List Nat} {vh : Nat → List Nat} : Wl (csS 5) (adL ad0 1 (vh 2)) cA (GSh g 5) = Wl (csS 5) (adF ad0 q v0 v1 v2 vl vm vh qh ah ql qs s1 s2 tx ou od) cA (Gfin g) := by
  refine Wl_cong (fun c hc => ?_)
  simp only [csS, List.mem_cons, List.not_mem_nil, or_false] at hc
  rcases hc with rfl | rfl | rfl | rfl | rfl | rfl | rfl | rfl | rfl | rfl | rfl | rfl
  all_goals rfl
theorem wf_S6 {ad0 : Nat → Int → Nat} {cA : Nat → ClassId} {g : GG} {q qh ah ql qs s1 s2 tx ou od : Nat} {v0 v1 v2 vl vm : List Nat} {vh : Nat → List Nat} : Wl (csS 6) (adL ad0 1 (vh 3)) cA (GSh g 6) = Wl (csS 6) (adF ad0 q v0 v1 v2 vl vm vh qh ah ql qs s1 s2 tx ou od) cA (Gfin g) := by
  refine Wl_cong (fun c hc => ?_)
  simp only [csS, List.mem_cons, List.not_mem_nil, or_false] at hc
  rcases hc with rfl | rfl | rfl | rfl | rfl | rfl | rfl | rfl | rfl | rfl | rfl | rfl
  all_goals rfl
theorem wf_S7 {ad0 : Nat → Int → Nat} {cA : Nat → ClassId} {g : GG} {q qh ah ql qs s1 s2 tx ou od : Nat} {v0 v1 v2 vl vm : List Nat} {vh : Nat → List Nat} : Wl (csS 7) (adL ad0 1 (vh 4)) cA (GSh g 7) = Wl (csS 7) (adF ad0 q v0 v1 v2 vl vm vh qh ah ql qs s1 s2 tx ou od) cA (Gfin g) := by
  refine Wl_cong (fun c hc => ?_)
  simp only [csS, List.mem_cons, List.not_mem_nil, or_false] at hc
  rcases hc with rfl | rfl | rfl | rfl | rfl | rfl | rfl | rfl | rfl | rfl | rfl | rfl
  all_goals rfl
theorem wf_S8 {ad0 : Nat → Int → Nat} {cA : Nat → ClassId} {g : GG} {q qh ah ql qs s1 s2 tx ou od : Nat} {v0 v1 v2 vl vm : List Nat} {vh : Nat → List Nat} : Wl (csS 8) (adL ad0 1 (vh 5)) cA (GSh g 8) = Wl (csS 8) (adF ad0 q v0 v1 v2 vl vm vh qh ah ql qs s1 s2 tx ou od) cA (Gfin g) := by
  refine Wl_cong (fun c hc => ?_)
  simp only [csS, List.mem_cons, List.not_mem_nil, or_false] at hc
  rcases hc with rfl | rfl | rfl | rfl | rfl | rfl | rfl | rfl | rfl | rfl | rfl | rfl
  all_goals rfl
theorem wf_S9 {ad0 : Nat → Int → Nat} {cA : Nat → ClassId} {g : GG} {q qh ah ql qs s1 s2 tx ou od : Nat} {v0 v1 v2 vl vm : List Nat} {vh : Nat → List Nat} : Wl (csS 9) (adL ad0 1 (vh 6)) cA (GSh g 9) = Wl (csS 9) (adF ad0 q v0 v1 v2 vl vm vh qh ah ql qs s1 s2 tx ou od) cA (Gfin g) := by
  refine Wl_cong (fun c hc => ?_)
  simp only [csS, List.mem_cons, List.not_mem_nil, or_false] at hc
  rcases hc with rfl | rfl | rfl | rfl | rfl | rfl | rfl | rfl | rfl | rfl | rfl | rfl
  all_goals rfl
theorem wf_S10 {ad0 : Nat → Int → Nat} {cA : Nat → ClassId} {g : GG} {q qh ah ql qs s1 s2 tx ou od : Nat} {v0 v1 v2 vl vm : List Nat} {vh : Nat → List Nat} : Wl (csS 10) (adL ad0 1 (vh 7)) cA (GSh g 10) = Wl (csS 10) (adF ad0 q v0 v1 v2 vl vm vh qh ah ql qs s1 s2 tx ou od) cA (Gfin g) := by
  refine Wl_cong (fun c hc => ?_)
  simp only [csS, List.mem_cons, List.not_mem_nil, or_false] at hc
  rcases hc with rfl | rfl | rfl | rfl | rfl | rfl | rfl | rfl | rfl | rfl | rfl | rfl
  all_goals rfl
theorem wf_M {ad0 : Nat → Int → Nat} {cA : Nat → ClassId} {g : GG} {q qh ah ql qs s1 s2 tx ou od : Nat} {v0 v1 v2 vl vm : List Nat} {vh : Nat → List Nat} : Wl csM (adL ad0 25 vm) cA (GMo g) = Wl csM (adF ad0 q v0 v1 v2 vl vm vh qh ah ql qs s1 s2 tx ou od) cA (Gfin g) := by
  refine Wl_cong (fun c hc => ?_)
  simp only [csM, List.mem_cons, List.not_mem_nil, or_false] at hc
  rcases hc with rfl | rfl | rfl | rfl | rfl | rfl | rfl | rfl | rfl | rfl | rfl | rfl | rfl | rfl | rfl | rfl | rfl
  all_goals rfl
