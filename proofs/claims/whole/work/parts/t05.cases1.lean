/-! The cases 0 to 12. -/
section LCS
variable {l : Launch} {p : Program} {e : Env} {s : State} {m : MethodId} {below : List Frame} {meth : Method} {c : Code} {b L : Nat} {xs : Nat → Int32} {D : va_G} {cA sp : Nat → Nat} {Q : State → Prop}
set_option maxRecDepth 100000 in
theorem lk_0 : lwCk 196 [1, 2] 5 156 13 17 = true := by decide +kernel
theorem ld_0 : decode code 224 = .ok (.if_icmp .eq 1112, 3) := by decide +kernel
theorem lc_0 : lCs l p e s m below meth c b L xs D cA sp Q 196 := fun F hX hbl hL i adc adm H locs cells slots ls hi hl q kk => l_ci (ks := [1, 2]) F hX hbl hL hi hl q lk_0 s_person ld_0 (by decide) kk
set_option maxRecDepth 100000 in
theorem lk_1 : lwCk 229 [1, 2] 8 159 18 21 = true := by decide +kernel
theorem ld_1 : decode code 257 = .ok (.if_icmp .eq 1079, 3) := by decide +kernel
theorem lc_1 : lCs l p e s m below meth c b L xs D cA sp Q 229 := fun F hX hbl hL i adc adm H locs cells slots ls hi hl q kk => l_ci (ks := [1, 2]) F hX hbl hL hi hl q lk_1 s_of ld_1 (by decide) kk
set_option maxRecDepth 100000 in
theorem lk_2 : lwCk 262 [1, 2, 3] 14 164 22 26 = true := by decide +kernel
theorem ld_2 : decode code 300 = .ok (.if_icmp .eq 1036, 3) := by decide +kernel
theorem lc_2 : lCs l p e s m below meth c b L xs D cA sp Q 262 := fun F hX hbl hL i adc adm H locs cells slots ls hi hl q kk => l_ci (ks := [1, 2, 3]) F hX hbl hL hi hl q lk_2 s_set ld_2 (by decide) kk
set_option maxRecDepth 100000 in
theorem lk_4 : lwCk 364 [1] 19 166 32 36 = true := by decide +kernel
theorem ld_4 : decode code 382 = .ok (.if_icmp .eq 954, 3) := by decide +kernel
theorem lc_4 : lCs l p e s m below meth c b L xs D cA sp Q 364 := fun F hX hbl hL i adc adm H locs cells slots ls hi hl q kk => l_ci (ks := [1]) F hX hbl hL hi hl q lk_4 s_boat ld_4 (by decide) kk
set_option maxRecDepth 100000 in
theorem lk_5 : lwCk 387 [1] 20 167 37 40 = true := by decide +kernel
theorem ld_5 : decode code 405 = .ok (.if_icmp .eq 931, 3) := by decide +kernel
theorem lc_5 : lCs l p e s m below meth c b L xs D cA sp Q 387 := fun F hX hbl hL i adc adm H locs cells slots ls hi hl q kk => l_ci (ks := [1]) F hX hbl hL hi hl q lk_5 s_feed ld_5 (by decide) kk
set_option maxRecDepth 100000 in
theorem lk_6 : lwCk 410 [] 22 168 41 45 = true := by decide +kernel
theorem ld_6 : decode code 418 = .ok (.if_icmp .eq 918, 3) := by decide +kernel
theorem lc_6 : lCs l p e s m below meth c b L xs D cA sp Q 410 := fun F hX hbl hL i adc adm H locs cells slots ls hi hl q kk => l_ci (ks := []) F hX hbl hL hi hl q lk_6 s_parish ld_6 (by decide) kk
set_option maxRecDepth 100000 in
theorem lk_7 : lwCk 423 [1] 49 182 46 49 = true := by decide +kernel
theorem ld_7 : decode code 441 = .ok (.if_icmp .eq 895, 3) := by decide +kernel
theorem lc_7 : lCs l p e s m below meth c b L xs D cA sp Q 423 := fun F hX hbl hL i adc adm H locs cells slots ls hi hl q kk => l_ci (ks := [1]) F hX hbl hL hi hl q lk_7 s_told ld_7 (by decide) kk
set_option maxRecDepth 100000 in
theorem lk_8 : lwCk 446 [1, 2, 3] 51 185 50 53 = true := by decide +kernel
theorem ld_8 : decode code 484 = .ok (.if_icmp .eq 852, 3) := by decide +kernel
theorem lc_8 : lCs l p e s m below meth c b L xs D cA sp Q 446 := fun F hX hbl hL i adc adm H locs cells slots ls hi hl q kk => l_ci (ks := [1, 2, 3]) F hX hbl hL hi hl q lk_8 s_pair ld_8 (by decide) kk
set_option maxRecDepth 100000 in
theorem lk_9 : lwCk 489 [1, 2] 53 207 54 57 = true := by decide +kernel
theorem ld_9 : decode code 517 = .ok (.if_icmp .eq 819, 3) := by decide +kernel
theorem lc_9 : lCs l p e s m below meth c b L xs D cA sp Q 489 := fun F hX hbl hL i adc adm H locs cells slots ls hi hl q kk => l_ci (ks := [1, 2]) F hX hbl hL hi hl q lk_9 s_plan ld_9 (by decide) kk
set_option maxRecDepth 100000 in
theorem lk_10 : lwCk 522 [1, 2] 62 208 58 61 = true := by decide +kernel
theorem ld_10 : decode code 550 = .ok (.if_icmp .eq 786, 3) := by decide +kernel
theorem lc_10 : lCs l p e s m below meth c b L xs D cA sp Q 522 := fun F hX hbl hL i adc adm H locs cells slots ls hi hl q kk => l_ci (ks := [1, 2]) F hX hbl hL hi hl q lk_10 s_by ld_10 (by decide) kk
set_option maxRecDepth 100000 in
theorem lk_11 : lwCk 555 [1, 2, 3] 82 217 62 65 = true := by decide +kernel
theorem ld_11 : decode code 593 = .ok (.if_icmp .eq 743, 3) := by decide +kernel
theorem lc_11 : lCs l p e s m below meth c b L xs D cA sp Q 555 := fun F hX hbl hL i adc adm H locs cells slots ls hi hl q kk => l_ci (ks := [1, 2, 3]) F hX hbl hL hi hl q lk_11 s_row ld_11 (by decide) kk
set_option maxRecDepth 100000 in
theorem lk_12 : lwCk 598 [1, 2] 85 189 66 69 = true := by decide +kernel
theorem ld_12 : decode code 626 = .ok (.if_icmp .eq 710, 3) := by decide +kernel
theorem lc_12 : lCs l p e s m below meth c b L xs D cA sp Q 598 := fun F hX hbl hL i adc adm H locs cells slots ls hi hl q kk => l_ci (ks := [1, 2]) F hX hbl hL hi hl q lk_12 s_group ld_12 (by decide) kk
end LCS
