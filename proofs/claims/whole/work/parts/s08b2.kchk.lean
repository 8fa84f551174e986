-- the checks, decided
set_option maxRecDepth 1000000 in
theorem zkc_9b : (List.range' 155 1).all zchk = true := by decide +kernel
