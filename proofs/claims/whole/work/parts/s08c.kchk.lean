-- the checks, decided (258 methods, 212 sites, 153 fields)
set_option maxRecDepth 1000000 in
theorem zkm_0 : (List.range' 0 32).all zchm = true := by decide +kernel
set_option maxRecDepth 1000000 in
theorem zkm_1 : (List.range' 32 32).all zchm = true := by decide +kernel
