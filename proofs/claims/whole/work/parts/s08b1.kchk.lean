-- the checks, decided
set_option maxRecDepth 1000000 in
theorem zkc_8 : (List.range' 128 16).all zchk = true := by decide +kernel
set_option maxRecDepth 1000000 in
theorem zkc_9a : (List.range' 144 11).all zchk = true := by decide +kernel
