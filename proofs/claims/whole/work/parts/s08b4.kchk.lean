-- the checks, decided
set_option maxRecDepth 1000000 in
theorem zkc_12 : (List.range' 192 16).all zchk = true := by decide +kernel
set_option maxRecDepth 1000000 in
theorem zkc_13 : (List.range' 208 16).all zchk = true := by decide +kernel
set_option maxRecDepth 1000000 in
theorem zkc_14 : (List.range' 224 16).all zchk = true := by decide +kernel
