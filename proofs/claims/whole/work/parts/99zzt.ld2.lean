set_option maxRecDepth 100000 in
theorem dl_1406 : (List.range' 1406 40).all (ckD 302) = true := by decide +kernel
set_option maxRecDepth 100000 in
theorem dl_1446 : (List.range' 1446 38).all (ckD 302) = true := by decide +kernel
set_option maxRecDepth 100000 in
theorem dl_1484 : (List.range' 1484 37).all (ckD 302) = true := by decide +kernel
set_option maxRecDepth 100000 in
theorem dl_1521 : (List.range' 1521 39).all (ckD 302) = true := by decide +kernel
set_option maxRecDepth 100000 in
theorem dl_1560 : (List.range' 1560 38).all (ckD 302) = true := by decide +kernel
set_option maxRecDepth 100000 in
theorem dl_1598 : (List.range' 1598 40).all (ckD 302) = true := by decide +kernel
set_option maxRecDepth 100000 in
theorem dl_1638 : (List.range' 1638 32).all (ckD 302) = true := by decide +kernel
set_option maxRecDepth 100000 in
theorem dl_1670 : (List.range' 1670 42).all (ckD 302) = true := by decide +kernel
set_option maxRecDepth 100000 in
theorem dl_1712 : (List.range' 1712 32).all (ckD 302) = true := by decide +kernel
set_option maxRecDepth 100000 in
theorem dl_1744 : (List.range' 1744 40).all (ckD 302) = true := by decide +kernel
set_option maxRecDepth 100000 in
theorem dl_1784 : (List.range' 1784 34).all (ckD 302) = true := by decide +kernel
set_option maxRecDepth 100000 in
theorem dl_1818 : (List.range' 1818 42).all (ckD 302) = true := by decide +kernel
set_option maxRecDepth 100000 in
theorem dl_1860 : (List.range' 1860 32).all (ckD 302) = true := by decide +kernel
set_option maxRecDepth 100000 in
theorem dl_1892 : (List.range' 1892 40).all (ckD 302) = true := by decide +kernel
set_option maxRecDepth 100000 in
theorem dl_1932 : (List.range' 1932 34).all (ckD 302) = true := by decide +kernel
set_option maxRecDepth 100000 in
theorem dl_1966 : (List.range' 1966 42).all (ckD 302) = true := by decide +kernel
