-- the checks, decided
set_option maxRecDepth 1000000 in
theorem zkm_5c : (List.range' 182 10).all zchm = true := by decide +kernel
set_option maxRecDepth 1000000 in
theorem zkm_6 : (List.range' 192 32).all zchm = true := by decide +kernel
set_option maxRecDepth 1000000 in
theorem zkm_7 : (List.range' 224 32).all zchm = true := by decide +kernel
set_option maxRecDepth 1000000 in
theorem zkm_8 : (List.range' 256 2).all zchm = true := by decide +kernel
theorem zkm_at {j a n : Nat} (h : (List.range' a n).all zchm = true) (h1 : a ≤ j) (h2 : j < a + n) : zchm j = true := List.all_eq_true.mp h j (by rw [List.mem_range']; exact ⟨j - a, by omega, by omega⟩)
theorem zkm_ok : ∀ j, j < 258 → zchm j = true := by
  intro j hj
  by_cases h0 : j < 32
  · exact zkm_at zkm_0 (by omega) (by omega)
  by_cases h1 : j < 64
  · exact zkm_at zkm_1 (by omega) (by omega)
  by_cases h2 : j < 96
  · exact zkm_at zkm_2 (by omega) (by omega)
  by_cases h3 : j < 128
  · exact zkm_at zkm_3 (by omega) (by omega)
  by_cases h4 : j < 142
  · exact zkm_at zkm_4a (by omega) (by omega)
  by_cases h41 : j < 155
  · exact zkm_at zkm_4b (by omega) (by omega)
  by_cases h42 : j = 155
  · subst h42; exact zkm_155
  by_cases h43 : j < 160
  · exact zkm_at zkm_4c (by omega) (by omega)
  by_cases h5 : j < 172
  · exact zkm_at zkm_5a (by omega) (by omega)
  by_cases h51 : j < 182
  · exact zkm_at zkm_5b (by omega) (by omega)
  by_cases h52 : j < 192
  · exact zkm_at zkm_5c (by omega) (by omega)
  by_cases h6 : j < 224
  · exact zkm_at zkm_6 (by omega) (by omega)
  by_cases h7 : j < 256
  · exact zkm_at zkm_7 (by omega) (by omega)
  exact zkm_at zkm_8 (by omega) (by omega)
