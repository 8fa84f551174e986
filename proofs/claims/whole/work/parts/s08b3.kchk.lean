-- the checks, decided
set_option maxRecDepth 1000000 in
theorem zkc_9c : (List.range' 156 4).all zchk = true := by decide +kernel
set_option maxRecDepth 1000000 in
theorem zkc_10 : (List.range' 160 16).all zchk = true := by decide +kernel
set_option maxRecDepth 1000000 in
theorem zkc_11 : (List.range' 176 16).all zchk = true := by decide +kernel
