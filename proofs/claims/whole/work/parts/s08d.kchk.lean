-- the checks, decided (258 methods, 212 sites, 153 fields); the longest by definition
def zchq (j : Nat) : Bool := (zR j).length != 0 && znx (zR j) 0 0 && plainName (zY j).1.cls && decide ((zY j).1.cls ≠ "java/lang/invoke/MethodHandle") && decide ((zY j).1.cls ≠ "java/lang/invoke/VarHandle") && decide (zOwn (zM j).2.1 = (zY j).1.cls) &&
  zAt (zYP j).2 (.initialized (zY j).1.cls) && decide ((zM j).1 ≤ 20) &&
  (match (zY j).2.2, (zM j).2.2 with
    | none, 0 => true
    | some .int, 1 => true
    | some .boolean, 2 => true
    | some .byte, 3 => true
    | some .char, 4 => true
    | some .long, 5 => true
    | some (.object _), 6 => true
    | _, _ => false)
def zco (j : Nat) : Prop := lw_tbl[(zYP j).1]? = some (.code (zY j).1 (zY j).2.1 (zM j).1 (zY j).2.2)
theorem zchm_of {j : Nat} (h : zchq j = true) (hc : zco j) : zchm j = true := by
  have hz : zAt (zYP j).1 (.code (zY j).1 (zY j).2.1 (zM j).1 (zY j).2.2) = true := decide_eq_true hc
  unfold zchq at h
  unfold zchm
  simp only [Bool.and_eq_true] at h ⊢
  obtain ⟨⟨⟨h1, h2⟩, h3⟩, h4⟩ := h
  exact ⟨⟨⟨⟨h1, hz⟩, h2⟩, h3⟩, h4⟩
set_option maxRecDepth 1000000 in
theorem zco_155 : zco 155 := rfl
set_option maxRecDepth 1000000 in
theorem zkq_155 : zchq 155 = true := by decide +kernel
theorem zkm_155 : zchm 155 = true := zchm_of zkq_155 zco_155
set_option maxRecDepth 1000000 in
theorem zkm_4a : (List.range' 128 14).all zchm = true := by decide +kernel
set_option maxRecDepth 1000000 in
theorem zkm_4b : (List.range' 142 13).all zchm = true := by decide +kernel
set_option maxRecDepth 1000000 in
theorem zkm_4c : (List.range' 156 4).all zchm = true := by decide +kernel
set_option maxRecDepth 1000000 in
theorem zkm_2 : (List.range' 64 32).all zchm = true := by decide +kernel
