/-! A case of the law: the class is asked, the reference is asked, the answers are the same. -/
abbrev lLoc (b a1 a2 i : Nat) : List (Nat × Value) := [(0, .ref b), (1, .ref a1), (2, .ref a2), (3, .int (Int32.ofNat i))]
abbrev lX (xs : Nat → Int32) (i k : Nat) : Value := .int (xs (i + k))
/-- the code that pushes arguments of the script -/
def lwCb (pc : Nat) : List Nat → Bool
  | [] => true
  | k :: ks => decide (decode code pc = .ok (.aload_n 0, 1)) && decide (decode code (pc + 1) = .ok (.iload_n 3, 1)) && decide (decode code (pc + 2) = .ok (.iconst (k : Int), 1)) && decide (decode code (pc + 3) = .ok (.iadd, 1)) && decide (decode code (pc + 4) = .ok (.iaload, 1)) && (decide (k ≤ 5) && lwCb (pc + 5) ks)
def lK0 : Nat := zsl zCS + zsl zMS
theorem lK0_le : lK0 ≤ 400000 := by decide +kernel
/-- where the two stand -/
def lQ (D : va_G) (cA : Nat → Nat) (s : State) (i : Nat) (adc adm : Nat → Nat) (H : Heap) (locs : List Loc) (cells slots : Nat) : Prop := ∃ X fr nx P c lc m lm, Rl X fr nx P c lc m lm ∧ lM D cA s adc (zCS ++ X) (zCR fr nx P) c lc adm zMS zMR m lm H locs ∧ X.length ≤ 3 * i ∧ zsl X ≤ 12 * i ∧ cells = 108 + X.length ∧ slots = lK0 + zsl X
/-- the words of a call -/
def lwWd (ci j idx n : Nat) : Bool := decide (j < 258) && decide (zOwn ci = (zY j).1.cls) && decide (Cond.methodLink R_law idx (zY j).1 ∈ lw_tbl) && decide (Cond.instanceMethod (zY j).1 ∈ lw_tbl) && decide (Cond.selects (zY j).1.cls (zY j).1 (zY j).1 ∈ lw_tbl) && decide ((parseMethodDescriptor (zY j).1.desc).map (fun d => d.parameters.length) = some n)
section LCASE
variable {l : Launch} {p : Program} {e : Env} {s : State} {m : MethodId} {below : List Frame} {meth : Method} {c : Code} {b L : Nat} {xs : Nat → Int32} {D : va_G} {cA sp adc adm : Nat → Nat} {H : Heap} {locs : List Loc} {cells slots : Nat} {Q : State → Prop}
variable {ls : Array Slot} {args rest : List Value} {jc jm ic im pc pcA pcB i a1 a2 : Nat}
/-- what pushes arguments -/
def lPush (l : Launch) (p : Program) (e : Env) (s : State) (m : MethodId) (below : List Frame) (meth : Method) (c : Code) (b : Nat) (Q : State → Prop) (ls : Array Slot) (pc0 pc1 : Nat) (args : List Value) : Prop :=
  ∀ (H : Heap) (locs : List Loc) (cells slots : Nat) (rest : List Value), va_S (lA s) s.heap H locs → W p l e room_1 s m #[Value.ref b] below meth c H locs cells slots Q (F0 m pc1 ls (args.reverse ++ rest)) → W p l e room_1 s m #[Value.ref b] below meth c H locs cells slots Q (F0 m pc0 ls rest)
theorem l_ofInt : ∀ k, k ≤ 5 → Int32.ofInt ((k : Nat) : Int) = Int32.ofNat k := fun k h => by
  have : k = 0 ∨ k = 1 ∨ k = 2 ∨ k = 3 ∨ k = 4 ∨ k = 5 := by omega
  rcases this with rfl | rfl | rfl | rfl | rfl | rfl <;> rfl
theorem l_arg {k : Nat} (F : lF p s m c b D cA sp) (hX : va_X b L xs s s.heap) (hbl : b < s.heap.size) (hS : va_S (lA s) s.heap H locs) (hl : lv_has ls 4 (lLoc b a1 a2 i)) (hi : i + 6 ≤ L) (hL : L ≤ 3072) (hk : k ≤ 5)
    (d0 : decode code pc = .ok (.aload_n 0, 1)) (d1 : decode code (pc + 1) = .ok (.iload_n 3, 1)) (d2 : decode code (pc + 2) = .ok (.iconst (k : Int), 1)) (d3 : decode code (pc + 3) = .ok (.iadd, 1)) (d4 : decode code (pc + 4) = .ok (.iaload, 1))
    (kk : W p l e room_1 s m #[Value.ref b] below meth c H locs cells slots Q (F0 m (pc + 5) ls (lX xs i k :: rest))) : W p l e room_1 s m #[Value.ref b] below meth c H locs cells slots Q (F0 m pc ls rest) := by
  obtain ⟨hx, hb, -⟩ := F
  have hbA : ¬ lA s b := Nat.not_le.mpr hbl
  have e9 : Int32.ofNat i + Int32.ofNat k = Int32.ofNat (i + k) := n_add i k
  have hin : vp_in (Int32.ofNat i + Int32.ofNat k) L := by rw [e9]; exact zin_vp (n_zin (by omega) (by omega))
  refine lv_aload_n hx hb d0 rfl (lv_at hl 0 rfl) ?_
  refine lv_iload_n hx hb d1 rfl (lv_at hl 3 rfl) ?_
  refine lv_iconst (v := Int32.ofNat k) hx hb d2 (l_ofInt k hk) ?_
  refine lv_iadd hx hb d3 ?_
  refine va_sld hx hb hX hbl hbA hS hin d4 ?_
  rw [e9, n_cl (by omega)]
  exact kk
theorem l_args (F : lF p s m c b D cA sp) (hX : va_X b L xs s s.heap) (hbl : b < s.heap.size) (hl : lv_has ls 4 (lLoc b a1 a2 i)) (hi : i + 6 ≤ L) (hL : L ≤ 3072) : ∀ (ks : List Nat) (pc : Nat), lwCb pc ks = true → lPush l p e s m below meth c b Q ls pc (pc + 5 * ks.length) (ks.map (lX xs i)) := by
  intro ks
  induction ks with
  | nil => intro pc _ H locs cells slots rest hS kk; exact kk
  | cons k ks ih =>
    intro pc hc H locs cells slots rest hS kk
    simp only [lwCb, Bool.and_eq_true, decide_eq_true_eq] at hc
    obtain ⟨⟨⟨⟨⟨d0, d1⟩, d2⟩, d3⟩, d4⟩, hk, hc⟩ := hc
    refine l_arg F hX hbl hS hl hi hL hk d0 d1 d2 d3 d4 ?_
    refine ih (pc + 5) hc H locs cells slots (lX xs i k :: rest) hS ?_
    have e1 : pc + 5 * (k :: ks).length = pc + 5 + 5 * ks.length := by rw [List.length_cons]; omega
    have e2 : ((k :: ks).map (lX xs i)).reverse ++ rest = (ks.map (lX xs i)).reverse ++ (lX xs i k :: rest) := by
      rw [List.map_cons, List.reverse_cons, List.append_assoc]; rfl
    rw [e1, e2] at kk
    exact kk
theorem lwWd_at {ci j idx n : Nat} (h : lwWd ci j idx n = true) : j < 258 ∧ zOwn ci = (zY j).1.cls ∧ Cond.methodLink R_law idx (zY j).1 ∈ lw_tbl ∧ Cond.instanceMethod (zY j).1 ∈ lw_tbl ∧ Cond.selects (zY j).1.cls (zY j).1 (zY j).1 ∈ lw_tbl ∧ (parseMethodDescriptor (zY j).1.desc).map (fun d => d.parameters.length) = some n := by
  simp only [lwWd, Bool.and_eq_true, decide_eq_true_eq] at h
  obtain ⟨⟨⟨⟨⟨a, b⟩, c⟩, d⟩, e⟩, f⟩ := h
  exact ⟨a, b, c, d, e, f⟩
theorem lC_len (X : zS) : (zCS ++ X).length = 74 + X.length := by rw [List.length_append]; rfl
/-- the class is asked, and the reference: what is left is the two answers on the stack -/
theorem l_two {v w : Option Value} {X X' : zS} {fr nx fr' nx' : Nat} {P P' : zR0} {c0 c1 m0 m1 : zI} {lc lc1 lm lm1 : zJ} {f f2 : Nat} (F : lF p s m c b D cA sp) (hl : lv_has ls 4 (lLoc b (adc 0) (adm 0) i)) (hi : i ≤ 3072)
    (M : lM D cA s adc (zCS ++ X) (zCR fr nx P) c0 lc adm zMS zMR m0 lm H locs) (x1 : X.length ≤ 3 * i) (x2 : zsl X ≤ 12 * i) (x3 : cells = 108 + X.length) (x4 : slots = lK0 + zsl X)
    (hz : zex f 40 jc 0 (zent (.ref 0 :: args) (zM jc).1) [] (zCS ++ X) (zCR fr nx P) c0 lc = some (v, zCS ++ X', zCR fr' nx' P', c1, lc1)) (gr : zGr X X') (hz2 : zex f2 40 jm 0 (zent (.ref 0 :: args) (zM jm).1) [] zMS zMR m0 lm = some (w, zMS, zMR, m1, lm1))
    (hv : v = none ∨ (∃ x, v = some (.int x)) ∨ ∃ x, v = some (.long x)) (hw : w = none ∨ (∃ x, w = some (.int x)) ∨ ∃ x, w = some (.long x)) (hvc : (v.toList.map fun v => v.category).sum ≤ 8)
    (hargs : ∀ v ∈ args, (∃ x, v = .int x) ∨ ∃ x, v = .long x) (hn1 : (zarg (.ref 0 :: args)).length ≤ (zM jc).1) (hn2 : (zarg (.ref 0 :: args)).length ≤ (zM jm).1) (w1 : lwWd 11 jc ic args.length = true) (w2 : lwWd 12 jm im args.length = true)
    (d1 : decode code pc = .ok (.aload_n 1, 1)) (p1 : lPush l p e s m below meth c b Q ls (pc + 1) pcA args) (d2 : decode code pcA = .ok (.invokevirtual ic, 3)) (d3 : decode code (pcA + 3) = .ok (.aload_n 2, 1)) (p2 : lPush l p e s m below meth c b Q ls (pcA + 4) pcB args) (d4 : decode code pcB = .ok (.invokevirtual im, 3))
    (kk : ∀ (adc1 adm1 : Nat → Nat) (H1 : Heap) (locs1 : List Loc) (cells1 slots1 : Nat), adc1 0 = adc 0 → adm1 0 = adm 0 → lM D cA s adc1 (zCS ++ X') (zCR fr' nx' P') c1 lc1 adm1 zMS zMR m1 lm1 H1 locs1 → X'.length ≤ 3 * (i + 1) → zsl X' ≤ 12 * (i + 1) → cells1 = 108 + X'.length → slots1 = lK0 + zsl X' → W p l e room_1 s m #[Value.ref b] below meth c H1 locs1 cells1 slots1 Q (F0 m (pcB + 3) ls (w.toList ++ v.toList))) :
    W p l e room_1 s m #[Value.ref b] below meth c H locs cells slots Q (F0 m pc ls []) := by
  obtain ⟨hx, hb, -⟩ := id F
  obtain ⟨j1, o1, l1, i1, s1, n1⟩ := lwWd_at w1
  obtain ⟨j2, o2, l2, i2, s2, n2⟩ := lwWd_at w2
  have g1 : X'.length ≤ X.length + 3 := gr.1
  have g2 : zsl X' ≤ zsl X + 12 := gr.2
  have k0 := lK0_le
  have hfit : cells + (zCS ++ X').length ≤ 600000 + (zCS ++ X).length ∧ slots + zsl (zCS ++ X') ≤ 7302250 + zsl (zCS ++ X) := by
    rw [lC_len, lC_len, zsl_app, zsl_app]; omega
  refine lv_aload_n hx hb d1 rfl (lv_at hl 1 rfl) ?_
  refine p1 H locs cells slots [.ref (adc 0)] M.2.2.2.2.2.1 ?_
  refine l_call (rest := []) (n := 15) F M hl.1 j1 hz hn1 hargs rfl (by decide) o1 l1 i1 s1 n1 (by decide) hfit d2 hv (fun ad1 H1 locs1 cells1 slots1 c1 c2 c3 M1 => ?_)
  rw [lC_len, lC_len] at c2
  rw [zsl_app, zsl_app] at c3
  have a1 : ad1 0 = adc 0 := c1 0 (by rw [lC_len]; omega)
  rw [List.append_nil]
  refine lv_aload_n hx hb d3 rfl (lv_at hl 2 rfl) ?_
  refine p2 H1 locs1 cells1 slots1 (.ref (adm 0) :: v.toList) M1.2.2.2.2.2.1 ?_
  refine l_call (rest := v.toList) (n := 60) F M1.swap hl.1 j2 hz2 hn2 hargs rfl (by decide) o2 l2 i2 s2 n2 hvc (by omega) d4 hw (fun ad2 H2 locs2 cells2 slots2 e1 e2 e3 M2 => ?_)
  have a2 : ad2 0 = adm 0 := e1 0 (by decide)
  exact kk ad1 ad2 H2 locs2 cells2 slots2 a1 a2 M2.swap (by omega) (by omega) (by omega) (by omega)
theorem lw_int {off : Int} (F : lF p s m c b D cA sp) (hl : lv_has ls 4 (lLoc b (adc 0) (adm 0) i)) (hi : i ≤ 3072) (q : lQ D cA s i adc adm H locs cells slots) (h : sI jc jm args)
    (hargs : ∀ v ∈ args, (∃ x, v = .int x) ∨ ∃ x, v = .long x) (hn1 : (zarg (.ref 0 :: args)).length ≤ (zM jc).1) (hn2 : (zarg (.ref 0 :: args)).length ≤ (zM jm).1) (w1 : lwWd 11 jc ic args.length = true) (w2 : lwWd 12 jm im args.length = true)
    (d1 : decode code pc = .ok (.aload_n 1, 1)) (p1 : lPush l p e s m below meth c b Q ls (pc + 1) pcA args) (d2 : decode code pcA = .ok (.invokevirtual ic, 3)) (d3 : decode code (pcA + 3) = .ok (.aload_n 2, 1)) (p2 : lPush l p e s m below meth c b Q ls (pcA + 4) pcB args) (d4 : decode code pcB = .ok (.invokevirtual im, 3)) (d5 : decode code (pcB + 3) = .ok (.if_icmp .eq off, 3)) (ho : ((pcB + 3 : Nat) : Int) + off = ((1336 : Nat) : Int))
    (kk : ∀ (adc1 adm1 : Nat → Nat) (H1 : Heap) (locs1 : List Loc) (cells1 slots1 : Nat), adc1 0 = adc 0 → adm1 0 = adm 0 → lQ D cA s (i + 1) adc1 adm1 H1 locs1 cells1 slots1 → W p l e room_1 s m #[Value.ref b] below meth c H1 locs1 cells1 slots1 Q (F0 m 1336 ls [])) :
    W p l e room_1 s m #[Value.ref b] below meth c H locs cells slots Q (F0 m pc ls []) := by
  obtain ⟨X, fr, nx, P, c0, lc, m0, lm, R, M, x1, x2, x3, x4⟩ := q
  obtain ⟨hx, hb, -⟩ := id F
  obtain ⟨f, r, S1, R1, mi1, ml1, hz, v, X', fr', nx', P', rfl, rfl, gr, rfl, T⟩ := h X fr nx P c0 lc m0 lm R
  obtain ⟨f2, r2, S2, R2, mi2, ml2, hz2, w, rfl, rfl, rfl, ev, R'⟩ := T
  refine l_two F hl hi M x1 x2 x3 x4 hz gr hz2 (Or.inr (Or.inl ⟨v, rfl⟩)) (Or.inr (Or.inl ⟨w, rfl⟩)) (show 1 ≤ 8 by decide) hargs hn1 hn2 w1 w2 d1 p1 d2 d3 p2 d4 (fun adc1 adm1 H1 locs1 cells1 slots1 a1 a2 M1 y1 y2 y3 y4 => ?_)
  exact lv_icmp_eq (x := v) (y := w) (tgt := 1336) hx hb d5 ho (fun _ => kk adc1 adm1 H1 locs1 cells1 slots1 a1 a2 ⟨X', fr', nx', P', mi1, ml1, mi2, ml2, R', M1, y1, y2, y3, y4⟩) (fun h => absurd ev h)
theorem lw_lng {off : Int} (F : lF p s m c b D cA sp) (hl : lv_has ls 4 (lLoc b (adc 0) (adm 0) i)) (hi : i ≤ 3072) (q : lQ D cA s i adc adm H locs cells slots) (h : sL jc jm args)
    (hargs : ∀ v ∈ args, (∃ x, v = .int x) ∨ ∃ x, v = .long x) (hn1 : (zarg (.ref 0 :: args)).length ≤ (zM jc).1) (hn2 : (zarg (.ref 0 :: args)).length ≤ (zM jm).1) (w1 : lwWd 11 jc ic args.length = true) (w2 : lwWd 12 jm im args.length = true)
    (d1 : decode code pc = .ok (.aload_n 1, 1)) (p1 : lPush l p e s m below meth c b Q ls (pc + 1) pcA args) (d2 : decode code pcA = .ok (.invokevirtual ic, 3)) (d3 : decode code (pcA + 3) = .ok (.aload_n 2, 1)) (p2 : lPush l p e s m below meth c b Q ls (pcA + 4) pcB args) (d4 : decode code pcB = .ok (.invokevirtual im, 3)) (d5 : decode code (pcB + 3) = .ok (.lcmp, 1)) (d6 : decode code (pcB + 4) = .ok (.ifCond .eq off, 3)) (ho : ((pcB + 4 : Nat) : Int) + off = ((1336 : Nat) : Int))
    (kk : ∀ (adc1 adm1 : Nat → Nat) (H1 : Heap) (locs1 : List Loc) (cells1 slots1 : Nat), adc1 0 = adc 0 → adm1 0 = adm 0 → lQ D cA s (i + 1) adc1 adm1 H1 locs1 cells1 slots1 → W p l e room_1 s m #[Value.ref b] below meth c H1 locs1 cells1 slots1 Q (F0 m 1336 ls [])) :
    W p l e room_1 s m #[Value.ref b] below meth c H locs cells slots Q (F0 m pc ls []) := by
  obtain ⟨X, fr, nx, P, c0, lc, m0, lm, R, M, x1, x2, x3, x4⟩ := q
  obtain ⟨hx, hb, -⟩ := id F
  obtain ⟨f, r, S1, R1, mi1, ml1, hz, v, rfl, rfl, rfl, T⟩ := h X fr nx P c0 lc m0 lm R
  obtain ⟨f2, r2, S2, R2, mi2, ml2, hz2, w, rfl, rfl, rfl, ev, R'⟩ := T
  refine l_two F hl hi M x1 x2 x3 x4 hz (zGr_rfl X) hz2 (Or.inr (Or.inr ⟨v, rfl⟩)) (Or.inr (Or.inr ⟨w, rfl⟩)) (show 2 ≤ 8 by decide) hargs hn1 hn2 w1 w2 d1 p1 d2 d3 p2 d4 (fun adc1 adm1 H1 locs1 cells1 slots1 a1 a2 M1 y1 y2 y3 y4 => ?_)
  subst ev
  refine W.lcmp hx hb d5 ?_
  have e0 : lg_cmp v v = 0 := by unfold lg_cmp; simp
  rw [e0]
  exact lv_if_eq (tgt := 1336) hx hb d6 ho (fun _ => kk adc1 adm1 H1 locs1 cells1 slots1 a1 a2 ⟨X, fr, nx, P, mi1, ml1, mi2, ml2, R', M1, y1, y2, y3, y4⟩) (fun h => absurd rfl h)
end LCASE
