/-! The cases 13 to 24. -/
section LCS
variable {l : Launch} {p : Program} {e : Env} {s : State} {m : MethodId} {below : List Frame} {meth : Method} {c : Code} {b L : Nat} {xs : Nat → Int32} {D : va_G} {cA sp : Nat → Nat} {Q : State → Prop}
set_option maxRecDepth 100000 in
theorem lk_13 : lwCk 631 [] 88 197 70 73 = true := by decide +kernel
theorem ld_13 : decode code 639 = .ok (.if_icmp .eq 697, 3) := by decide +kernel
theorem lc_13 : lCs l p e s m below meth c b L xs D cA sp Q 631 := fun F hX hbl hL i adc adm H locs cells slots ls hi hl q kk => l_ci (ks := []) F hX hbl hL hi hl q lk_13 s_groups ld_13 (by decide) kk
set_option maxRecDepth 100000 in
theorem lk_14 : lwCk 644 [1] 89 199 74 77 = true := by decide +kernel
theorem ld_14 : decode code 662 = .ok (.if_icmp .eq 674, 3) := by decide +kernel
theorem lc_14 : lCs l p e s m below meth c b L xs D cA sp Q 644 := fun F hX hbl hL i adc adm H locs cells slots ls hi hl q kk => l_ci (ks := [1]) F hX hbl hL hi hl q lk_14 s_cross ld_14 (by decide) kk
set_option maxRecDepth 100000 in
theorem lk_15 : lwCk 667 [1, 2, 3] 91 218 78 81 = true := by decide +kernel
theorem ld_15 : decode code 705 = .ok (.if_icmp .eq 631, 3) := by decide +kernel
theorem lc_15 : lCs l p e s m below meth c b L xs D cA sp Q 667 := fun F hX hbl hL i adc adm H locs cells slots ls hi hl q kk => l_ci (ks := [1, 2, 3]) F hX hbl hL hi hl q lk_15 s_run ld_15 (by decide) kk
set_option maxRecDepth 100000 in
theorem lk_16 : lwCk 710 [] 94 201 82 85 = true := by decide +kernel
theorem ld_16 : decode code 718 = .ok (.if_icmp .eq 618, 3) := by decide +kernel
theorem lc_16 : lCs l p e s m below meth c b L xs D cA sp Q 710 := fun F hX hbl hL i adc adm H locs cells slots ls hi hl q kk => l_ci (ks := []) F hX hbl hL hi hl q lk_16 s_longest ld_16 (by decide) kk
set_option maxRecDepth 100000 in
theorem lk_17 : lwCk 723 [1] 96 222 86 89 = true := by decide +kernel
theorem ld_17 : decode code 741 = .ok (.if_icmp .eq 595, 3) := by decide +kernel
theorem lc_17 : lCs l p e s m below meth c b L xs D cA sp Q 723 := fun F hX hbl hL i adc adm H locs cells slots ls hi hl q kk => l_ci (ks := [1]) F hX hbl hL hi hl q lk_17 s_home ld_17 (by decide) kk
set_option maxRecDepth 100000 in
theorem lk_18 : lwCk 746 [] 105 225 90 93 = true := by decide +kernel
theorem ld_18 : decode code 754 = .ok (.if_icmp .eq 582, 3) := by decide +kernel
theorem lc_18 : lCs l p e s m below meth c b L xs D cA sp Q 746 := fun F hX hbl hL i adc adm H locs cells slots ls hi hl q kk => l_ci (ks := []) F hX hbl hL hi hl q lk_18 s_left ld_18 (by decide) kk
set_option maxRecDepth 100000 in
theorem lk_19 : lwCk 759 [] 109 226 94 97 = true := by decide +kernel
theorem ld_19 : decode code 767 = .ok (.if_icmp .eq 569, 3) := by decide +kernel
theorem lc_19 : lCs l p e s m below meth c b L xs D cA sp Q 759 := fun F hX hbl hL i adc adm H locs cells slots ls hi hl q kk => l_ci (ks := []) F hX hbl hL hi hl q lk_19 s_circle ld_19 (by decide) kk
set_option maxRecDepth 100000 in
theorem lk_20 : lwCk 772 [] 111 228 98 101 = true := by decide +kernel
theorem ld_20 : decode code 780 = .ok (.if_icmp .eq 556, 3) := by decide +kernel
theorem lc_20 : lCs l p e s m below meth c b L xs D cA sp Q 772 := fun F hX hbl hL i adc adm H locs cells slots ls hi hl q kk => l_ci (ks := []) F hX hbl hL hi hl q lk_20 s_strangers ld_20 (by decide) kk
set_option maxRecDepth 100000 in
theorem lk_21 : lwCk 785 [1, 2] 112 206 102 105 = true := by decide +kernel
theorem ld_21 : decode code 813 = .ok (.if_icmp .eq 523, 3) := by decide +kernel
theorem lc_21 : lCs l p e s m below meth c b L xs D cA sp Q 785 := fun F hX hbl hL i adc adm H locs cells slots ls hi hl q kk => l_ci (ks := [1, 2]) F hX hbl hL hi hl q lk_21 s_price ld_21 (by decide) kk
set_option maxRecDepth 100000 in
theorem lk_22 : lwCk 818 [1, 2] 113 229 106 110 = true := by decide +kernel
theorem ld_22 : decode code 846 = .ok (.lcmp, 1) := by decide +kernel
theorem le_22 : decode code 847 = .ok (.ifCond .eq 489, 3) := by decide +kernel
theorem lc_22 : lCs l p e s m below meth c b L xs D cA sp Q 818 := fun F hX hbl hL i adc adm H locs cells slots ls hi hl q kk => l_cl (ks := [1, 2]) F hX hbl hL hi hl q lk_22 s_likely ld_22 le_22 (by decide) kk
set_option maxRecDepth 100000 in
theorem lk_23 : lwCk 852 [1, 2] 120 235 111 114 = true := by decide +kernel
theorem ld_23 : decode code 880 = .ok (.lcmp, 1) := by decide +kernel
theorem le_23 : decode code 881 = .ok (.ifCond .eq 455, 3) := by decide +kernel
theorem lc_23 : lCs l p e s m below meth c b L xs D cA sp Q 852 := fun F hX hbl hL i adc adm H locs cells slots ls hi hl q kk => l_cl (ks := [1, 2]) F hX hbl hL hi hl q lk_23 s_wanted ld_23 le_23 (by decide) kk
set_option maxRecDepth 100000 in
theorem lk_24 : lwCk 886 [1] 121 238 115 118 = true := by decide +kernel
theorem ld_24 : decode code 904 = .ok (.if_icmp .eq 432, 3) := by decide +kernel
theorem lc_24 : lCs l p e s m below meth c b L xs D cA sp Q 886 := fun F hX hbl hL i adc adm H locs cells slots ls hi hl q kk => l_ci (ks := [1]) F hX hbl hL hi hl q lk_24 s_book ld_24 (by decide) kk
end LCS
