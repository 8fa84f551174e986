def lw_P (b : Addr) (xs : List Int32) (args : Array Value) (s : State) : Prop := args = #[.ref b] ∧ s.IntsAt b xs ∧ xs.length ≤ 3072 ∧ (Jvm.Cond.and given_1 narrow_1).before args s = true
def lw_Q (_ : Array Value) (s : State) (o : Outcome) (t : State) : Prop := o = .returned (some (.int 1)) ∧ Framed s o t [] 600000 7302250
def lw_Z (below : List Frame) (a : Array Value) (s : State) : State → Prop := fun t => ∃ o, t.status = .running ∧ Ended t below o ∧ lw_Q a s o t
/-- the law's own end, with 1 on the stack, nothing written that was there before, its room as the claim has it -/
theorem lw_ret {p : Program} {l : Launch} {e : Env} {s : State} {m : MethodId} {below : List Frame} {meth : Method} {c : Code} {b : Nat} (hx : p.tables.exec = Jvm.exec) (hb : c.code = code) (hr : meth.sig.returnType = ret) (hlocks : meth.locks = false) {pc : Nat} {H : Heap} {ls : Array Slot} (hdg : decode code pc = .ok (.ireturn, 1)) : W p l e room_1 s m #[Value.ref b] below meth c H [] 600000 7302250 (lw_Z below #[Value.ref b] s) (F0 m pc ls [.int 1]) := by
  intro T hT X
  obtain ⟨fs, hret, hrun, hended, hW, hframe⟩ := X.leave (v := some (.int 1)) (hlocks := hlocks) (fun h => by rw [hr] at h; cases h)
  have hmeth' : T.vm.method? m = some meth := X.method'
  refine ⟨T.setFrames fs, ?_, .returned (some (.int 1)), hrun, hended, rfl, ⟨_, rfl⟩, hW, hframe⟩
  jvm_step X.here [X.here.top, hx, hb, hdg, hmeth', hr, ret, narrow_b1]
  (try refine ⟨rfl, ?_⟩); (try refine ⟨rfl, ?_⟩)
  first | (intro acts; rw [hret _ acts rfl rfl rfl]) | rw [hret _ _ rfl rfl rfl]
  exact Steps.refl _
/-- what holds at the law's entry: the machine, the code, the tables' words (any of lw_tbl by 'hts w (by decide +kernel)'), the script of L ints xs at the cell b, what the Statement gives of the start (any of its parts by flat_of_before) -/
def lw_At (p : Program) (s : State) (m : MethodId) (meth : Method) (c : Code) (b L : Nat) (xs : Nat → Int32) : Prop :=
  p.tables.exec = Jvm.exec ∧ c.code = code ∧ meth.sig.returnType = ret ∧ c.maxLocals = 4 ∧ s.vm.findClass R_law = some m.cls ∧ (∀ w ∈ lw_tbl, w.before #[Value.ref b] s = true) ∧ va_X b L xs s s.heap ∧ b < s.heap.size ∧ meth.locks = false ∧ (Jvm.Cond.and given_1 narrow_1).before #[Value.ref b] s = true
/-! The law's loop. -/
def lOffs : Array Int := #[163, 196, 229, 272, 331, 354, 377, 390, 413, 456, 489, 522, 565, 598, 611, 634, 677, 690, 713, 726, 739, 752, 785, 819, 853, 876, 889, 942, 955, 968, 1011, 1034, 1067, 1090, 1133, 1206, 1240]
theorem ld_sw : decode code 33 = .ok (.tableswitch 1303 0 36 lOffs, 163) := by decide +kernel
theorem ld_p18 : decode code 18 = .ok (.iload_n 3, 1) := by decide +kernel
theorem ld_p19 : decode code 19 = .ok (.aload_n 0, 1) := by decide +kernel
theorem ld_p20 : decode code 20 = .ok (.arraylength, 1) := by decide +kernel
theorem ld_p21 : decode code 21 = .ok (.bipush 6, 2) := by decide +kernel
theorem ld_p23 : decode code 23 = .ok (.isub, 1) := by decide +kernel
theorem ld_p24 : decode code 24 = .ok (.if_icmp .gt 1318, 3) := by decide +kernel
theorem ld_p27 : decode code 27 = .ok (.aload_n 0, 1) := by decide +kernel
theorem ld_p28 : decode code 28 = .ok (.iload_n 3, 1) := by decide +kernel
theorem ld_p29 : decode code 29 = .ok (.iaload, 1) := by decide +kernel
theorem ld_p30 : decode code 30 = .ok (.bipush 63, 2) := by decide +kernel
theorem ld_p32 : decode code 32 = .ok (.iand, 1) := by decide +kernel
theorem ld_p1336 : decode code 1336 = .ok (.iinc 3 6, 3) := by decide +kernel
theorem ld_p1339 : decode code 1339 = .ok (.goto (-1321), 3) := by decide +kernel
theorem ld_p1342 : decode code 1342 = .ok (.iconst 1, 1) := by decide +kernel
theorem ld_p1343 : decode code 1343 = .ok (.ireturn, 1) := by decide +kernel
section LLP
variable {l : Launch} {p : Program} {e : Env} {s : State} {m : MethodId} {below : List Frame} {meth : Method} {c : Code} {b L : Nat} {xs : Nat → Int32} {D : va_G} {cA sp adc adm : Nat → Nat} {H : Heap} {locs : List Loc} {cells slots : Nat} {Q : State → Prop}
variable {ls : Array Slot} {i : Nat}
theorem lQ.up {i j : Nat} (h : i ≤ j) (q : lQ D cA s i adc adm H locs cells slots) : lQ D cA s j adc adm H locs cells slots := by
  obtain ⟨X, fr, nx, P, c0, lc, m0, lm, R, M, x1, x2, x3, x4⟩ := q
  exact ⟨X, fr, nx, P, c0, lc, m0, lm, R, M, by omega, by omega, x3, x4⟩
/-- the case that the script asks for -/
theorem l_pick {y : Int32} (F : lF p s m c b D cA sp) (hX : va_X b L xs s s.heap) (hbl : b < s.heap.size) (hL : L ≤ 3072) (hi : i + 6 ≤ L) (hl : lv_has ls 4 (lLoc b (adc 0) (adm 0) i)) (q : lQ D cA s i adc adm H locs cells slots) (kk : lKK l p e s m below meth c b D cA i adc adm ls Q) :
    W p l e room_1 s m #[Value.ref b] below meth c H locs cells slots Q (F0 m 33 ls [.int y]) := by
  obtain ⟨hx, hb, -⟩ := id F
  by_cases ho : y.toInt < 0 ∨ 36 < y.toInt
  · exact lv_tableOut (tgt := 1336) hx hb ld_sw ho (by decide) (kk adc adm H locs cells slots rfl rfl (q.up (Nat.le_succ i)))
  · have h0 : ¬ y.toInt < 0 := fun h => ho (Or.inl h)
    have h36 : ¬ 36 < y.toInt := fun h => ho (Or.inr h)
    have go : ∀ (k tgt : Nat) (off : Int), y.toInt = (k : Int) → lOffs[k]? = some off → ((33 : Nat) : Int) + off = (tgt : Int) → W p l e room_1 s m #[Value.ref b] below meth c H locs cells slots Q (F0 m tgt ls []) → W p l e room_1 s m #[Value.ref b] below meth c H locs cells slots Q (F0 m 33 ls [.int y]) := fun k tgt off hk h1 h2 h3 =>
      lv_tableIn hx hb ld_sw h0 h36 (by rw [hk]; exact h1) h2 h3
    have h37 : y.toInt = ((0 : Nat) : Int) ∨ y.toInt = ((1 : Nat) : Int) ∨ y.toInt = ((2 : Nat) : Int) ∨ y.toInt = ((3 : Nat) : Int) ∨ y.toInt = ((4 : Nat) : Int) ∨ y.toInt = ((5 : Nat) : Int) ∨ y.toInt = ((6 : Nat) : Int) ∨ y.toInt = ((7 : Nat) : Int) ∨ y.toInt = ((8 : Nat) : Int) ∨ y.toInt = ((9 : Nat) : Int) ∨ y.toInt = ((10 : Nat) : Int) ∨ y.toInt = ((11 : Nat) : Int) ∨ y.toInt = ((12 : Nat) : Int) ∨ y.toInt = ((13 : Nat) : Int) ∨ y.toInt = ((14 : Nat) : Int) ∨ y.toInt = ((15 : Nat) : Int) ∨ y.toInt = ((16 : Nat) : Int) ∨ y.toInt = ((17 : Nat) : Int) ∨ y.toInt = ((18 : Nat) : Int) ∨ y.toInt = ((19 : Nat) : Int) ∨ y.toInt = ((20 : Nat) : Int) ∨ y.toInt = ((21 : Nat) : Int) ∨ y.toInt = ((22 : Nat) : Int) ∨ y.toInt = ((23 : Nat) : Int) ∨ y.toInt = ((24 : Nat) : Int) ∨ y.toInt = ((25 : Nat) : Int) ∨ y.toInt = ((26 : Nat) : Int) ∨ y.toInt = ((27 : Nat) : Int) ∨ y.toInt = ((28 : Nat) : Int) ∨ y.toInt = ((29 : Nat) : Int) ∨ y.toInt = ((30 : Nat) : Int) ∨ y.toInt = ((31 : Nat) : Int) ∨ y.toInt = ((32 : Nat) : Int) ∨ y.toInt = ((33 : Nat) : Int) ∨ y.toInt = ((34 : Nat) : Int) ∨ y.toInt = ((35 : Nat) : Int) ∨ y.toInt = ((36 : Nat) : Int) := by omega
    rcases h37 with h | h | h | h | h | h | h | h | h | h | h | h | h | h | h | h | h | h | h | h | h | h | h | h | h | h | h | h | h | h | h | h | h | h | h | h | h
    · exact go 0 196 163 h rfl (by decide) (lc_0 F hX hbl hL i adc adm H locs cells slots ls hi hl q kk)
    · exact go 1 229 196 h rfl (by decide) (lc_1 F hX hbl hL i adc adm H locs cells slots ls hi hl q kk)
    · exact go 2 262 229 h rfl (by decide) (lc_2 F hX hbl hL i adc adm H locs cells slots ls hi hl q kk)
    · exact go 3 305 272 h rfl (by decide) (lc_3 F hX hbl hL i adc adm H locs cells slots ls hi hl q kk)
    · exact go 4 364 331 h rfl (by decide) (lc_4 F hX hbl hL i adc adm H locs cells slots ls hi hl q kk)
    · exact go 5 387 354 h rfl (by decide) (lc_5 F hX hbl hL i adc adm H locs cells slots ls hi hl q kk)
    · exact go 6 410 377 h rfl (by decide) (lc_6 F hX hbl hL i adc adm H locs cells slots ls hi hl q kk)
    · exact go 7 423 390 h rfl (by decide) (lc_7 F hX hbl hL i adc adm H locs cells slots ls hi hl q kk)
    · exact go 8 446 413 h rfl (by decide) (lc_8 F hX hbl hL i adc adm H locs cells slots ls hi hl q kk)
    · exact go 9 489 456 h rfl (by decide) (lc_9 F hX hbl hL i adc adm H locs cells slots ls hi hl q kk)
    · exact go 10 522 489 h rfl (by decide) (lc_10 F hX hbl hL i adc adm H locs cells slots ls hi hl q kk)
    · exact go 11 555 522 h rfl (by decide) (lc_11 F hX hbl hL i adc adm H locs cells slots ls hi hl q kk)
    · exact go 12 598 565 h rfl (by decide) (lc_12 F hX hbl hL i adc adm H locs cells slots ls hi hl q kk)
    · exact go 13 631 598 h rfl (by decide) (lc_13 F hX hbl hL i adc adm H locs cells slots ls hi hl q kk)
    · exact go 14 644 611 h rfl (by decide) (lc_14 F hX hbl hL i adc adm H locs cells slots ls hi hl q kk)
    · exact go 15 667 634 h rfl (by decide) (lc_15 F hX hbl hL i adc adm H locs cells slots ls hi hl q kk)
    · exact go 16 710 677 h rfl (by decide) (lc_16 F hX hbl hL i adc adm H locs cells slots ls hi hl q kk)
    · exact go 17 723 690 h rfl (by decide) (lc_17 F hX hbl hL i adc adm H locs cells slots ls hi hl q kk)
    · exact go 18 746 713 h rfl (by decide) (lc_18 F hX hbl hL i adc adm H locs cells slots ls hi hl q kk)
    · exact go 19 759 726 h rfl (by decide) (lc_19 F hX hbl hL i adc adm H locs cells slots ls hi hl q kk)
    · exact go 20 772 739 h rfl (by decide) (lc_20 F hX hbl hL i adc adm H locs cells slots ls hi hl q kk)
    · exact go 21 785 752 h rfl (by decide) (lc_21 F hX hbl hL i adc adm H locs cells slots ls hi hl q kk)
    · exact go 22 818 785 h rfl (by decide) (lc_22 F hX hbl hL i adc adm H locs cells slots ls hi hl q kk)
    · exact go 23 852 819 h rfl (by decide) (lc_23 F hX hbl hL i adc adm H locs cells slots ls hi hl q kk)
    · exact go 24 886 853 h rfl (by decide) (lc_24 F hX hbl hL i adc adm H locs cells slots ls hi hl q kk)
    · exact go 25 909 876 h rfl (by decide) (lc_25 F hX hbl hL i adc adm H locs cells slots ls hi hl q kk)
    · exact go 26 922 889 h rfl (by decide) (lc_26 F hX hbl hL i adc adm H locs cells slots ls hi hl q kk)
    · exact go 27 975 942 h rfl (by decide) (lc_27 F hX hbl hL i adc adm H locs cells slots ls hi hl q kk)
    · exact go 28 988 955 h rfl (by decide) (lc_28 F hX hbl hL i adc adm H locs cells slots ls hi hl q kk)
    · exact go 29 1001 968 h rfl (by decide) (lc_29 F hX hbl hL i adc adm H locs cells slots ls hi hl q kk)
    · exact go 30 1044 1011 h rfl (by decide) (lc_30 F hX hbl hL i adc adm H locs cells slots ls hi hl q kk)
    · exact go 31 1067 1034 h rfl (by decide) (lc_31 F hX hbl hL i adc adm H locs cells slots ls hi hl q kk)
    · exact go 32 1100 1067 h rfl (by decide) (lc_32 F hX hbl hL i adc adm H locs cells slots ls hi hl q kk)
    · exact go 33 1123 1090 h rfl (by decide) (lc_33 F hX hbl hL i adc adm H locs cells slots ls hi hl q kk)
    · exact go 34 1166 1133 h rfl (by decide) (lc_34 F hX hbl hL i adc adm H locs cells slots ls hi hl q kk)
    · exact go 35 1239 1206 h rfl (by decide) (lc_35 F hX hbl hL i adc adm H locs cells slots ls hi hl q kk)
    · exact go 36 1273 1240 h rfl (by decide) (lc_36 F hX hbl hL i adc adm H locs cells slots ls hi hl q kk)
/-- one more round, or the end -/
theorem l_head {i L : Nat} (hL : L ≤ 3072) (hi : i ≤ L) : (i + 6 ≤ L ∧ ¬ Int32.ofNat i > Int32.ofNat L - 6) ∨ (L < i + 6 ∧ Int32.ofNat i > Int32.ofNat L - 6) := by
  by_cases h6 : 6 ≤ L
  · have e1 : Int32.ofNat L - 6 = Int32.ofNat (L - 6) := n_sub h6
    rw [e1]
    by_cases h : i + 6 ≤ L
    · exact Or.inl ⟨h, fun q => absurd ((n_lt (a := L - 6) (b := i) (by omega) (by omega)).mp q) (by omega)⟩
    · exact Or.inr ⟨by omega, (n_lt (a := L - 6) (b := i) (by omega) (by omega)).mpr (by omega)⟩
  · refine Or.inr ⟨by omega, ?_⟩
    have k : ∀ L, L < 6 → Int32.ofNat L - 6 < 0 := by decide
    have z : (0 : Int32) ≤ Int32.ofNat i := (n_le (a := 0) (b := i) (by decide) (by omega)).mpr (Nat.zero_le i)
    exact Int32.lt_iff_toInt_lt.mpr (Int.lt_of_lt_of_le (Int32.lt_iff_toInt_lt.mp (k L (by omega))) (Int32.le_iff_toInt_le.mp z))
theorem l_loop (F : lF p s m c b D cA sp) (hr : meth.sig.returnType = ret) (hlocks : meth.locks = false) (hX : va_X b L xs s s.heap) (hbl : b < s.heap.size) (hL : L ≤ 3072) : ∀ (N i : Nat) (adc adm : Nat → Nat) (H : Heap) (locs : List Loc) (cells slots : Nat) (ls : Array Slot), i ≤ L → L + 1 ≤ N + i → lv_has ls 4 (lLoc b (adc 0) (adm 0) i) → lQ D cA s i adc adm H locs cells slots → W p l e room_1 s m #[Value.ref b] below meth c H locs cells slots (lw_Z below #[Value.ref b] s) (F0 m 18 ls []) := by
  intro N
  induction N with
  | zero => intro i adc adm H locs cells slots ls h1 h2; omega
  | succ N ih =>
    intro i adc adm H locs cells slots ls h1 h2 hl q
    obtain ⟨hx, hb, hml, ho, hts, -⟩ := id F
    have hbA : ¬ lA s b := Nat.not_le.mpr hbl
    have hS : va_S (lA s) s.heap H locs := by
      obtain ⟨X, fr, nx, P, c0, lc, m0, lm, R, M, -⟩ := q
      exact M.2.2.2.2.2.1
    refine lv_iload_n hx hb ld_p18 rfl (lv_at hl 3 rfl) ?_
    refine lv_aload_n hx hb ld_p19 rfl (lv_at hl 0 rfl) ?_
    refine va_slen hx hb hX hbl hbA hS ld_p20 ?_
    refine lv_bipush (v := 6) hx hb ld_p21 (by decide) ?_
    refine lv_isub hx hb ld_p23 ?_
    rcases l_head hL h1 with ⟨hi, hn⟩ | ⟨hi, hn⟩
    · refine lv_icmp_gt (tgt := 1342) hx hb ld_p24 (by decide) (fun h => absurd h hn) (fun _ => ?_)
      refine lv_aload_n hx hb ld_p27 rfl (lv_at hl 0 rfl) ?_
      refine lv_iload_n hx hb ld_p28 rfl (lv_at hl 3 rfl) ?_
      refine va_sld hx hb hX hbl hbA hS (zin_vp (n_zin (by omega) (by omega))) ld_p29 ?_
      refine lv_bipush (v := 63) hx hb ld_p30 (by decide) ?_
      refine lv_iand hx hb ld_p32 ?_
      refine l_pick F hX hbl hL hi hl q (fun adc1 adm1 H1 locs1 cells1 slots1 a1 a2 q1 => ?_)
      refine lv_iinc (v := Int32.ofNat (i + 6)) (lv' := [(3, .int (Int32.ofNat (i + 6))), (0, .ref b), (1, .ref (adc 0)), (2, .ref (adm 0))]) hx hb ld_p1336 hl (k := 3) rfl (n_add i 6) (by decide) rfl (fun ls hl => ?_)
      refine lv_goto (tgt := 18) hx hb ld_p1339 (by decide) ?_
      refine ih (i + 6) adc1 adm1 H1 locs1 cells1 slots1 ls (by omega) (by omega) ?_ (q1.up (by omega))
      rw [a1, a2]
      exact lv_sub hl [1, 2, 3, 0] rfl
    · refine lv_icmp_gt (tgt := 1342) hx hb ld_p24 (by decide) (fun _ => ?_) (fun h => absurd hn h)
      refine va_forget (fun q hq => hS.2.2 q hq) ?_
      refine lv_iconst (v := 1) hx hb ld_p1342 (by decide) ?_
      refine W.widen (k := 600000) (n := 7302250) ?_ ?_ ?_
      · obtain ⟨X, fr, nx, P, c0, lc, m0, lm, R, M, x1, x2, x3, x4⟩ := q
        omega
      · obtain ⟨X, fr, nx, P, c0, lc, m0, lm, R, M, x1, x2, x3, x4⟩ := q
        have := lK0_le
        omega
      · exact lw_ret hx hb hr hlocks ld_p1343
end LLP
