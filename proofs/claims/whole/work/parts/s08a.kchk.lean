-- the checks, decided (258 methods, 212 sites, 153 fields)
set_option maxRecDepth 1000000 in
theorem zkc_0 : (List.range' 0 16).all zchk = true := by decide +kernel
set_option maxRecDepth 1000000 in
theorem zkc_1 : (List.range' 16 16).all zchk = true := by decide +kernel
set_option maxRecDepth 1000000 in
theorem zkc_2 : (List.range' 32 16).all zchk = true := by decide +kernel
set_option maxRecDepth 1000000 in
theorem zkc_3 : (List.range' 48 16).all zchk = true := by decide +kernel
set_option maxRecDepth 1000000 in
theorem zkc_4 : (List.range' 64 16).all zchk = true := by decide +kernel
set_option maxRecDepth 1000000 in
theorem zkc_5 : (List.range' 80 16).all zchk = true := by decide +kernel
set_option maxRecDepth 1000000 in
theorem zkc_6 : (List.range' 96 16).all zchk = true := by decide +kernel
set_option maxRecDepth 1000000 in
theorem zkc_7 : (List.range' 112 16).all zchk = true := by decide +kernel
