-- the checks, decided
set_option maxRecDepth 1000000 in
theorem zkm_5a : (List.range' 160 12).all zchm = true := by decide +kernel
set_option maxRecDepth 1000000 in
theorem zkm_5b : (List.range' 172 10).all zchm = true := by decide +kernel
set_option maxRecDepth 1000000 in
theorem zkm_3 : (List.range' 96 32).all zchm = true := by decide +kernel
