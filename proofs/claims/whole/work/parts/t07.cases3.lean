/-! The cases 25 to 36. -/
section LCS
variable {l : Launch} {p : Program} {e : Env} {s : State} {m : MethodId} {below : List Frame} {meth : Method} {c : Code} {b L : Nat} {xs : Nat → Int32} {D : va_G} {cA sp : Nat → Nat} {Q : State → Prop}
set_option maxRecDepth 100000 in
theorem lk_25 : lwCk 909 [] 122 239 119 122 = true := by decide +kernel
theorem ld_25 : decode code 917 = .ok (.if_icmp .eq 419, 3) := by decide +kernel
theorem lc_25 : lCs l p e s m below meth c b L xs D cA sp Q 909 := fun F hX hbl hL i adc adm H locs cells slots ls hi hl q kk => l_ci (ks := []) F hX hbl hL hi hl q lk_25 s_readBook ld_25 (by decide) kk
set_option maxRecDepth 100000 in
theorem lk_26 : lwCk 922 [1, 2, 3, 4] 123 240 123 127 = true := by decide +kernel
theorem ld_26 : decode code 970 = .ok (.if_icmp .eq 366, 3) := by decide +kernel
theorem lc_26 : lCs l p e s m below meth c b L xs D cA sp Q 922 := fun F hX hbl hL i adc adm H locs cells slots ls hi hl q kk => l_ci (ks := [1, 2, 3, 4]) F hX hbl hL hi hl q lk_26 s_judge ld_26 (by decide) kk
set_option maxRecDepth 100000 in
theorem lk_27 : lwCk 975 [] 126 242 128 131 = true := by decide +kernel
theorem ld_27 : decode code 983 = .ok (.if_icmp .eq 353, 3) := by decide +kernel
theorem lc_27 : lCs l p e s m below meth c b L xs D cA sp Q 975 := fun F hX hbl hL i adc adm H locs cells slots ls hi hl q kk => l_ci (ks := []) F hX hbl hL hi hl q lk_27 s_image ld_27 (by decide) kk
set_option maxRecDepth 100000 in
theorem lk_28 : lwCk 988 [] 130 243 132 135 = true := by decide +kernel
theorem ld_28 : decode code 996 = .ok (.if_icmp .eq 340, 3) := by decide +kernel
theorem lc_28 : lCs l p e s m below meth c b L xs D cA sp Q 988 := fun F hX hbl hL i adc adm H locs cells slots ls hi hl q kk => l_ci (ks := []) F hX hbl hL hi hl q lk_28 s_undo ld_28 (by decide) kk
set_option maxRecDepth 100000 in
theorem lk_29 : lwCk 1001 [1, 2, 3] 133 244 136 139 = true := by decide +kernel
theorem ld_29 : decode code 1039 = .ok (.if_icmp .eq 297, 3) := by decide +kernel
theorem lc_29 : lCs l p e s m below meth c b L xs D cA sp Q 1001 := fun F hX hbl hL i adc adm H locs cells slots ls hi hl q kk => l_ci (ks := [1, 2, 3]) F hX hbl hL hi hl q lk_29 s_act ld_29 (by decide) kk
set_option maxRecDepth 100000 in
theorem lk_30 : lwCk 1044 [1] 146 250 140 143 = true := by decide +kernel
theorem ld_30 : decode code 1062 = .ok (.if_icmp .eq 274, 3) := by decide +kernel
theorem lc_30 : lCs l p e s m below meth c b L xs D cA sp Q 1044 := fun F hX hbl hL i adc adm H locs cells slots ls hi hl q kk => l_ci (ks := [1]) F hX hbl hL hi hl q lk_30 s_trace ld_30 (by decide) kk
set_option maxRecDepth 100000 in
theorem lk_31 : lwCk 1067 [1, 2] 147 251 144 147 = true := by decide +kernel
theorem ld_31 : decode code 1095 = .ok (.if_icmp .eq 241, 3) := by decide +kernel
theorem lc_31 : lCs l p e s m below meth c b L xs D cA sp Q 1067 := fun F hX hbl hL i adc adm H locs cells slots ls hi hl q kk => l_ci (ks := [1, 2]) F hX hbl hL hi hl q lk_31 s_taken ld_31 (by decide) kk
set_option maxRecDepth 100000 in
theorem lk_32 : lwCk 1100 [1] 149 252 148 151 = true := by decide +kernel
theorem ld_32 : decode code 1118 = .ok (.if_icmp .eq 218, 3) := by decide +kernel
theorem lc_32 : lCs l p e s m below meth c b L xs D cA sp Q 1100 := fun F hX hbl hL i adc adm H locs cells slots ls hi hl q kk => l_ci (ks := [1]) F hX hbl hL hi hl q lk_32 s_count ld_32 (by decide) kk
set_option maxRecDepth 100000 in
theorem lk_33 : lwCk 1123 [1, 2, 3] 150 253 152 155 = true := by decide +kernel
theorem ld_33 : decode code 1161 = .ok (.if_icmp .eq 175, 3) := by decide +kernel
theorem lc_33 : lCs l p e s m below meth c b L xs D cA sp Q 1123 := fun F hX hbl hL i adc adm H locs cells slots ls hi hl q kk => l_ci (ks := [1, 2, 3]) F hX hbl hL hi hl q lk_33 s_tape ld_33 (by decide) kk
set_option maxRecDepth 100000 in
theorem lk_35 : lwCk 1239 [1, 2] 153 256 163 166 = true := by decide +kernel
theorem ld_35 : decode code 1267 = .ok (.lcmp, 1) := by decide +kernel
theorem le_35 : decode code 1268 = .ok (.ifCond .eq 68, 3) := by decide +kernel
theorem lc_35 : lCs l p e s m below meth c b L xs D cA sp Q 1239 := fun F hX hbl hL i adc adm H locs cells slots ls hi hl q kk => l_cl (ks := [1, 2]) F hX hbl hL hi hl q lk_35 s_read ld_35 le_35 (by decide) kk
set_option maxRecDepth 100000 in
theorem lk_36 : lwCk 1273 [1, 2, 3, 4, 5] 154 257 167 171 = true := by decide +kernel
theorem ld_36 : decode code 1331 = .ok (.if_icmp .eq 5, 3) := by decide +kernel
theorem lc_36 : lCs l p e s m below meth c b L xs D cA sp Q 1273 := fun F hX hbl hL i adc adm H locs cells slots ls hi hl q kk => l_ci (ks := [1, 2, 3, 4, 5]) F hX hbl hL hi hl q lk_36 s_shift ld_36 (by decide) kk
end LCS
