/-! The two cases whose arguments are worked out, and all cases by their number. -/
section LSP
variable {l : Launch} {p : Program} {e : Env} {s : State} {m : MethodId} {below : List Frame} {meth : Method} {c : Code} {b L : Nat} {xs : Nat → Int32} {D : va_G} {cA sp : Nat → Nat} {Q : State → Prop}
variable {ls : Array Slot} {i a1 a2 q : Nat}
theorem l_pmeet (F : lF p s m c b D cA sp) (hX : va_X b L xs s s.heap) (hbl : b < s.heap.size) (hl : lv_has ls 4 (lLoc b a1 a2 i)) (hi : i + 6 ≤ L) (hL : L ≤ 3072) (h : lwCb q [1, 2, 3] = true) (d1 : decode code (q + 15) = .ok (.ifCond .eq 7, 3)) (d2 : decode code (q + 18) = .ok (.iconst 1, 1)) (d3 : decode code (q + 19) = .ok (.goto 4, 3)) (d4 : decode code (q + 22) = .ok (.iconst 0, 1)) :
    lPush l p e s m below meth c b Q ls q (q + 23) [lX xs i 1, lX xs i 2, .int (if xs (i + 3) = 0 then 0 else 1)] := by
  intro H locs cells slots rest hS kk
  obtain ⟨hx, hb, -⟩ := id F
  refine l_args F hX hbl hl hi hL [1, 2, 3] q h H locs cells slots rest hS ?_
  show W p l e room_1 s m #[Value.ref b] below meth c H locs cells slots Q (F0 m (q + 15) ls (.int (xs (i + 3)) :: .int (xs (i + 2)) :: .int (xs (i + 1)) :: rest))
  refine lv_if_eq (tgt := q + 22) hx hb d1 (by omega) (fun e9 => ?_) (fun e9 => ?_)
  · rw [if_pos e9] at kk
    exact lv_iconst (v := 0) hx hb d4 rfl kk
  · rw [if_neg e9] at kk
    refine lv_iconst (v := 1) hx hb d2 rfl ?_
    exact lv_goto (tgt := q + 23) hx hb d3 (by omega) kk
theorem l_pitem (F : lF p s m c b D cA sp) (hX : va_X b L xs s s.heap) (hbl : b < s.heap.size) (hl : lv_has ls 4 (lLoc b a1 a2 i)) (hi : i + 6 ≤ L) (hL : L ≤ 3072) (h : lwCb q [1, 2, 3] = true) (d1 : decode code (q + 15) = .ok (.i2l, 1)) (d2 : decode code (q + 16) = .ok (.bipush 32, 2)) (d3 : decode code (q + 18) = .ok (.lshl, 1)) (h2 : lwCb (q + 19) [4] = true) (d4 : decode code (q + 24) = .ok (.i2l, 1)) (d5 : decode code (q + 25) = .ok (.ldc2_w 156, 3)) (d6 : decode code (q + 28) = .ok (.land, 1)) (d7 : decode code (q + 29) = .ok (.lor, 1)) :
    lPush l p e s m below meth c b Q ls q (q + 30) [lX xs i 1, lX xs i 2, .long ((xs (i + 3)).toInt64 <<< (((Int8.ofInt 32).toInt32).toInt64 &&& 63) ||| ((xs (i + 4)).toInt64 &&& 4294967295))] := by
  intro H locs cells slots rest hS kk
  obtain ⟨hx, hb, hml, ho, hts, -⟩ := id F
  refine l_args F hX hbl hl hi hL [1, 2, 3] q h H locs cells slots rest hS ?_
  show W p l e room_1 s m #[Value.ref b] below meth c H locs cells slots Q (F0 m (q + 15) ls (.int (xs (i + 3)) :: .int (xs (i + 2)) :: .int (xs (i + 1)) :: rest))
  refine lv_i2l hx hb d1 rfl ?_
  refine lv_bipush hx hb d2 rfl ?_
  refine lv_lshl hx hb d3 rfl ?_
  refine l_args F hX hbl hl hi hL [4] (q + 19) h2 H locs cells slots _ hS ?_
  refine lv_i2l hx hb d4 rfl ?_
  refine lv_ldc2 (v := 4294967295) hx hb ho (hts (Jvm.Cond.constantLong R_law 156 4294967295) (by decide +kernel)) d5 ?_
  refine lv_land hx hb d6 ?_
  refine lv_lor hx hb d7 ?_
  exact kk
set_option maxRecDepth 100000 in
theorem lk_3 : (decide (decode code 305 = .ok (.aload_n 1, 1)) && lwCb 306 [1, 2, 3] && decide (decode code 321 = .ok (.ifCond .eq 7, 3)) && decide (decode code 324 = .ok (.iconst 1, 1)) && decide (decode code 325 = .ok (.goto 4, 3)) && decide (decode code 328 = .ok (.iconst 0, 1)) && decide (decode code 329 = .ok (.invokevirtual 27, 3)) && decide (decode code 332 = .ok (.aload_n 2, 1)) && lwCb 333 [1, 2, 3] && decide (decode code 348 = .ok (.ifCond .eq 7, 3)) && decide (decode code 351 = .ok (.iconst 1, 1)) && decide (decode code 352 = .ok (.goto 4, 3)) && decide (decode code 355 = .ok (.iconst 0, 1)) && decide (decode code 356 = .ok (.invokevirtual 31, 3)) && decide (decode code 359 = .ok (.if_icmp .eq 977, 3)) && (lwWd 11 15 27 3 && lwWd 12 165 31 3)) = true := by decide +kernel
theorem lc_3 : lCs l p e s m below meth c b L xs D cA sp Q 305 := fun F hX hbl hL i adc adm H locs cells slots ls hi hl q kk => by
  have h := lk_3
  simp only [Bool.and_eq_true, decide_eq_true_eq] at h
  obtain ⟨⟨⟨⟨⟨⟨⟨⟨⟨⟨⟨⟨⟨⟨⟨d1, c1⟩, m1⟩, m2⟩, m3⟩, m4⟩, d2⟩, d3⟩, c2⟩, n1⟩, n2⟩, n3⟩, n4⟩, d4⟩, d5⟩, w1, w2⟩ := h
  refine lw_int (jc := 15) (jm := 165) (ic := 27) (im := 31) (pcA := 329) (pcB := 356) (off := 977) (args := [lX xs i 1, lX xs i 2, .int (if xs (i + 3) = 0 then 0 else 1)]) F hl (by omega) q s_meet ?_ (by show 4 ≤ (zM 15).1; decide) (by show 4 ≤ (zM 165).1; decide) w1 w2 d1 (l_pmeet (q := 306) F hX hbl hl hi hL c1 m1 m2 m3 m4) d2 d3 (l_pmeet (q := 333) F hX hbl hl hi hL c2 n1 n2 n3 n4) d4 d5 (by decide) kk
  intro v hv
  simp only [List.mem_cons, List.not_mem_nil, or_false] at hv
  rcases hv with rfl | rfl | rfl <;> exact Or.inl ⟨_, rfl⟩
set_option maxRecDepth 100000 in
theorem lk_34 : (decide (decode code 1166 = .ok (.aload_n 1, 1)) && lwCb 1167 [1, 2, 3] && decide (decode code 1182 = .ok (.i2l, 1)) && decide (decode code 1183 = .ok (.bipush 32, 2)) && decide (decode code 1185 = .ok (.lshl, 1)) && lwCb 1186 [4] && decide (decode code 1191 = .ok (.i2l, 1)) && decide (decode code 1192 = .ok (.ldc2_w 156, 3)) && decide (decode code 1195 = .ok (.land, 1)) && decide (decode code 1196 = .ok (.lor, 1)) && decide (decode code 1197 = .ok (.invokevirtual 158, 3)) && decide (decode code 1200 = .ok (.aload_n 2, 1)) && lwCb 1201 [1, 2, 3] && decide (decode code 1216 = .ok (.i2l, 1)) && decide (decode code 1217 = .ok (.bipush 32, 2)) && decide (decode code 1219 = .ok (.lshl, 1)) && lwCb 1220 [4] && decide (decode code 1225 = .ok (.i2l, 1)) && decide (decode code 1226 = .ok (.ldc2_w 156, 3)) && decide (decode code 1229 = .ok (.land, 1)) && decide (decode code 1230 = .ok (.lor, 1)) && decide (decode code 1231 = .ok (.invokevirtual 162, 3)) && decide (decode code 1234 = .ok (.if_icmp .eq 102, 3)) && (lwWd 11 151 158 3 && lwWd 12 254 162 3)) = true := by decide +kernel
theorem lc_34 : lCs l p e s m below meth c b L xs D cA sp Q 1166 := fun F hX hbl hL i adc adm H locs cells slots ls hi hl q kk => by
  have h := lk_34
  simp only [Bool.and_eq_true, decide_eq_true_eq] at h
  obtain ⟨⟨⟨⟨⟨⟨⟨⟨⟨⟨⟨⟨⟨⟨⟨⟨⟨⟨⟨⟨⟨⟨⟨d1, c1⟩, m1⟩, m2⟩, m3⟩, c3⟩, m4⟩, m5⟩, m6⟩, m7⟩, d2⟩, d3⟩, c2⟩, n1⟩, n2⟩, n3⟩, c4⟩, n4⟩, n5⟩, n6⟩, n7⟩, d4⟩, d5⟩, w1, w2⟩ := h
  refine lw_int (jc := 151) (jm := 254) (ic := 158) (im := 162) (pcA := 1197) (pcB := 1231) (off := 102) (args := [lX xs i 1, lX xs i 2, .long ((xs (i + 3)).toInt64 <<< (((Int8.ofInt 32).toInt32).toInt64 &&& 63) ||| ((xs (i + 4)).toInt64 &&& 4294967295))]) F hl (by omega) q s_item ?_ (by show 5 ≤ (zM 151).1; decide) (by show 5 ≤ (zM 254).1; decide) w1 w2 d1 (l_pitem (q := 1167) F hX hbl hl hi hL c1 m1 m2 m3 c3 m4 m5 m6 m7) d2 d3 (l_pitem (q := 1201) F hX hbl hl hi hL c2 n1 n2 n3 c4 n4 n5 n6 n7) d4 d5 (by decide) kk
  intro v hv
  simp only [List.mem_cons, List.not_mem_nil, or_false] at hv
  rcases hv with rfl | rfl | rfl
  · exact Or.inl ⟨_, rfl⟩
  · exact Or.inl ⟨_, rfl⟩
  · exact Or.inr ⟨_, rfl⟩
end LSP
