set_option maxRecDepth 100000 in
theorem dl_2008 : (List.range' 2008 34).all (ckD 302) = true := by decide +kernel
set_option maxRecDepth 100000 in
theorem dl_2042 : (List.range' 2042 40).all (ckD 302) = true := by decide +kernel
set_option maxRecDepth 100000 in
theorem dl_2082 : (List.range' 2082 38).all (ckD 302) = true := by decide +kernel
set_option maxRecDepth 100000 in
theorem dl_2120 : (List.range' 2120 38).all (ckD 302) = true := by decide +kernel
set_option maxRecDepth 100000 in
theorem dl_2158 : (List.range' 2158 42).all (ckD 302) = true := by decide +kernel
set_option maxRecDepth 100000 in
theorem dl_2200 : (List.range' 2200 34).all (ckD 302) = true := by decide +kernel
set_option maxRecDepth 100000 in
theorem dl_2234 : (List.range' 2234 41).all (ckD 302) = true := by decide +kernel
set_option maxRecDepth 100000 in
theorem dl_2275 : (List.range' 2275 41).all (ckD 302) = true := by decide +kernel
set_option maxRecDepth 100000 in
theorem dl_2316 : (List.range' 2316 34).all (ckD 302) = true := by decide +kernel
set_option maxRecDepth 100000 in
theorem dl_2350 : (List.range' 2350 42).all (ckD 302) = true := by decide +kernel
set_option maxRecDepth 100000 in
theorem dl_2392 : (List.range' 2392 32).all (ckD 302) = true := by decide +kernel
set_option maxRecDepth 100000 in
theorem dl_2424 : (List.range' 2424 40).all (ckD 302) = true := by decide +kernel
set_option maxRecDepth 100000 in
theorem dl_2464 : (List.range' 2464 40).all (ckD 302) = true := by decide +kernel
set_option maxRecDepth 100000 in
theorem dl_2504 : (List.range' 2504 36).all (ckD 302) = true := by decide +kernel
set_option maxRecDepth 100000 in
theorem dl_2540 : (List.range' 2540 34).all (ckD 302) = true := by decide +kernel
set_option maxRecDepth 100000 in
theorem dl_2574 : (List.range' 2574 41).all (ckD 302) = true := by decide +kernel
