set_option maxRecDepth 100000 in
theorem dl_807 : (List.range' 807 40).all (ckD 302) = true := by decide +kernel
set_option maxRecDepth 100000 in
theorem dl_847 : (List.range' 847 39).all (ckD 302) = true := by decide +kernel
set_option maxRecDepth 100000 in
theorem dl_886 : (List.range' 886 37).all (ckD 302) = true := by decide +kernel
set_option maxRecDepth 100000 in
theorem dl_923 : (List.range' 923 42).all (ckD 302) = true := by decide +kernel
set_option maxRecDepth 100000 in
theorem dl_965 : (List.range' 965 34).all (ckD 302) = true := by decide +kernel
set_option maxRecDepth 100000 in
theorem dl_999 : (List.range' 999 40).all (ckD 302) = true := by decide +kernel
set_option maxRecDepth 100000 in
theorem dl_1039 : (List.range' 1039 39).all (ckD 302) = true := by decide +kernel
set_option maxRecDepth 100000 in
theorem dl_1078 : (List.range' 1078 35).all (ckD 302) = true := by decide +kernel
set_option maxRecDepth 100000 in
theorem dl_1113 : (List.range' 1113 36).all (ckD 302) = true := by decide +kernel
set_option maxRecDepth 100000 in
theorem dl_1149 : (List.range' 1149 39).all (ckD 302) = true := by decide +kernel
set_option maxRecDepth 100000 in
theorem dl_1188 : (List.range' 1188 37).all (ckD 302) = true := by decide +kernel
set_option maxRecDepth 100000 in
theorem dl_1225 : (List.range' 1225 39).all (ckD 302) = true := by decide +kernel
set_option maxRecDepth 100000 in
theorem dl_1264 : (List.range' 1264 35).all (ckD 302) = true := by decide +kernel
set_option maxRecDepth 100000 in
theorem dl_1299 : (List.range' 1299 37).all (ckD 302) = true := by decide +kernel
set_option maxRecDepth 100000 in
theorem dl_1336 : (List.range' 1336 36).all (ckD 302) = true := by decide +kernel
set_option maxRecDepth 100000 in
theorem dl_1372 : (List.range' 1372 34).all (ckD 302) = true := by decide +kernel
