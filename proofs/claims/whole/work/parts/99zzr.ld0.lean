set_option maxRecDepth 100000 in
theorem dl_28 : (List.range' 28 228).all (ckD 302) = true := by decide +kernel
set_option maxRecDepth 100000 in
theorem dl_256 : (List.range' 256 31).all (ckD 302) = true := by decide +kernel
set_option maxRecDepth 100000 in
theorem dl_287 : (List.range' 287 32).all (ckD 302) = true := by decide +kernel
set_option maxRecDepth 100000 in
theorem dl_319 : (List.range' 319 40).all (ckD 302) = true := by decide +kernel
set_option maxRecDepth 100000 in
theorem dl_359 : (List.range' 359 42).all (ckD 302) = true := by decide +kernel
set_option maxRecDepth 100000 in
theorem dl_401 : (List.range' 401 37).all (ckD 302) = true := by decide +kernel
set_option maxRecDepth 100000 in
theorem dl_438 : (List.range' 438 42).all (ckD 302) = true := by decide +kernel
set_option maxRecDepth 100000 in
theorem dl_480 : (List.range' 480 34).all (ckD 302) = true := by decide +kernel
set_option maxRecDepth 100000 in
theorem dl_514 : (List.range' 514 40).all (ckD 302) = true := by decide +kernel
set_option maxRecDepth 100000 in
theorem dl_554 : (List.range' 554 32).all (ckD 302) = true := by decide +kernel
set_option maxRecDepth 100000 in
theorem dl_586 : (List.range' 586 32).all (ckD 302) = true := by decide +kernel
set_option maxRecDepth 100000 in
theorem dl_618 : (List.range' 618 40).all (ckD 302) = true := by decide +kernel
set_option maxRecDepth 100000 in
theorem dl_658 : (List.range' 658 39).all (ckD 302) = true := by decide +kernel
set_option maxRecDepth 100000 in
theorem dl_697 : (List.range' 697 40).all (ckD 302) = true := by decide +kernel
set_option maxRecDepth 100000 in
theorem dl_737 : (List.range' 737 36).all (ckD 302) = true := by decide +kernel
set_option maxRecDepth 100000 in
theorem dl_773 : (List.range' 773 34).all (ckD 302) = true := by decide +kernel
