/-! The cases, one by one. -/
section LCS
variable {l : Launch} {p : Program} {e : Env} {s : State} {m : MethodId} {below : List Frame} {meth : Method} {c : Code} {b L : Nat} {xs : Nat → Int32} {D : va_G} {cA sp adc adm : Nat → Nat} {H : Heap} {locs : List Loc} {cells slots : Nat} {Q : State → Prop}
variable {ls : Array Slot} {i : Nat}
/-- what is asked behind a case -/
abbrev lKK (l : Launch) (p : Program) (e : Env) (s : State) (m : MethodId) (below : List Frame) (meth : Method) (c : Code) (b : Nat) (D : va_G) (cA : Nat → Nat) (i : Nat) (adc adm : Nat → Nat) (ls : Array Slot) (Q : State → Prop) : Prop := ∀ (adc1 adm1 : Nat → Nat) (H1 : Heap) (locs1 : List Loc) (cells1 slots1 : Nat), adc1 0 = adc 0 → adm1 0 = adm 0 → lQ D cA s (i + 1) adc1 adm1 H1 locs1 cells1 slots1 → W p l e room_1 s m #[Value.ref b] below meth c H1 locs1 cells1 slots1 Q (F0 m 1336 ls [])
/-- a case whose arguments are ints of the script -/
def lwCk (pc : Nat) (ks : List Nat) (jc jm ic im : Nat) : Bool := decide (decode code pc = .ok (.aload_n 1, 1)) && lwCb (pc + 1) ks && decide (decode code (pc + 1 + 5 * ks.length) = .ok (.invokevirtual ic, 3)) && decide (decode code (pc + 1 + 5 * ks.length + 3) = .ok (.aload_n 2, 1)) && lwCb (pc + 1 + 5 * ks.length + 4) ks && decide (decode code (pc + 1 + 5 * ks.length + 4 + 5 * ks.length) = .ok (.invokevirtual im, 3)) && (lwWd 11 jc ic ks.length && lwWd 12 jm im ks.length && decide (1 + ks.length ≤ (zM jc).1) && decide (1 + ks.length ≤ (zM jm).1))
theorem l_zarg (ks : List Nat) : (zarg (.ref 0 :: ks.map (lX xs i))).length = 1 + ks.length := by
  have : ∀ ks : List Nat, (zarg (ks.map (lX xs i))).length = ks.length := by
    intro ks
    induction ks with
    | nil => rfl
    | cons k ks ih =>
      show (Value.int _ :: zarg (ks.map (lX xs i))).length = _
      rw [List.length_cons, ih, List.length_cons]
  show (Value.ref 0 :: zarg (ks.map (lX xs i))).length = _
  rw [List.length_cons, this]
  omega
theorem l_isI (ks : List Nat) : ∀ v ∈ ks.map (lX xs i), (∃ x, v = .int x) ∨ ∃ x, v = .long x := fun v hv => by
  obtain ⟨k, -, rfl⟩ := List.mem_map.mp hv
  exact Or.inl ⟨_, rfl⟩
theorem l_ci {pc jc jm ic im : Nat} {ks : List Nat} {off : Int} (F : lF p s m c b D cA sp) (hX : va_X b L xs s s.heap) (hbl : b < s.heap.size) (hL : L ≤ 3072) (hi : i + 6 ≤ L) (hl : lv_has ls 4 (lLoc b (adc 0) (adm 0) i)) (q : lQ D cA s i adc adm H locs cells slots) (ck : lwCk pc ks jc jm ic im = true) (h : sI jc jm (ks.map (lX xs i))) (d5 : decode code (pc + 1 + 5 * ks.length + 4 + 5 * ks.length + 3) = .ok (.if_icmp .eq off, 3)) (ho : ((pc + 1 + 5 * ks.length + 4 + 5 * ks.length + 3 : Nat) : Int) + off = ((1336 : Nat) : Int))
    (kk : lKK l p e s m below meth c b D cA i adc adm ls Q) : W p l e room_1 s m #[Value.ref b] below meth c H locs cells slots Q (F0 m pc ls []) := by
  simp only [lwCk, Bool.and_eq_true, decide_eq_true_eq] at ck
  obtain ⟨⟨⟨⟨⟨⟨d1, p1⟩, d2⟩, d3⟩, p2⟩, d4⟩, ⟨⟨w1, w2⟩, n1⟩, n2⟩ := ck
  exact lw_int F hl (by omega) q h (l_isI ks) (by rw [l_zarg]; exact n1) (by rw [l_zarg]; exact n2) (by rw [List.length_map]; exact w1) (by rw [List.length_map]; exact w2) d1 (l_args F hX hbl hl hi hL ks _ p1) d2 d3 (l_args F hX hbl hl hi hL ks _ p2) d4 d5 ho kk
theorem l_cl {pc jc jm ic im : Nat} {ks : List Nat} {off : Int} (F : lF p s m c b D cA sp) (hX : va_X b L xs s s.heap) (hbl : b < s.heap.size) (hL : L ≤ 3072) (hi : i + 6 ≤ L) (hl : lv_has ls 4 (lLoc b (adc 0) (adm 0) i)) (q : lQ D cA s i adc adm H locs cells slots) (ck : lwCk pc ks jc jm ic im = true) (h : sL jc jm (ks.map (lX xs i))) (d5 : decode code (pc + 1 + 5 * ks.length + 4 + 5 * ks.length + 3) = .ok (.lcmp, 1)) (d6 : decode code (pc + 1 + 5 * ks.length + 4 + 5 * ks.length + 4) = .ok (.ifCond .eq off, 3)) (ho : ((pc + 1 + 5 * ks.length + 4 + 5 * ks.length + 4 : Nat) : Int) + off = ((1336 : Nat) : Int))
    (kk : lKK l p e s m below meth c b D cA i adc adm ls Q) : W p l e room_1 s m #[Value.ref b] below meth c H locs cells slots Q (F0 m pc ls []) := by
  simp only [lwCk, Bool.and_eq_true, decide_eq_true_eq] at ck
  obtain ⟨⟨⟨⟨⟨⟨d1, p1⟩, d2⟩, d3⟩, p2⟩, d4⟩, ⟨⟨w1, w2⟩, n1⟩, n2⟩ := ck
  exact lw_lng F hl (by omega) q h (l_isI ks) (by rw [l_zarg]; exact n1) (by rw [l_zarg]; exact n2) (by rw [List.length_map]; exact w1) (by rw [List.length_map]; exact w2) d1 (l_args F hX hbl hl hi hL ks _ p1) d2 d3 (l_args F hX hbl hl hi hL ks _ p2) d4 d5 d6 ho kk
/-- a case -/
abbrev lCs (l : Launch) (p : Program) (e : Env) (s : State) (m : MethodId) (below : List Frame) (meth : Method) (c : Code) (b L : Nat) (xs : Nat → Int32) (D : va_G) (cA sp : Nat → Nat) (Q : State → Prop) (pc : Nat) : Prop := lF p s m c b D cA sp → va_X b L xs s s.heap → b < s.heap.size → L ≤ 3072 → ∀ (i : Nat) (adc adm : Nat → Nat) (H : Heap) (locs : List Loc) (cells slots : Nat) (ls : Array Slot), i + 6 ≤ L → lv_has ls 4 (lLoc b (adc 0) (adm 0) i) → lQ D cA s i adc adm H locs cells slots → lKK l p e s m below meth c b D cA i adc adm ls Q → W p l e room_1 s m #[Value.ref b] below meth c H locs cells slots Q (F0 m pc ls [])
end LCS
