-- the checks, decided
set_option maxRecDepth 1000000 in
theorem zkc_15 : (List.range' 240 16).all zchk = true := by decide +kernel
set_option maxRecDepth 1000000 in
theorem zkc_16 : (List.range' 256 2).all zchk = true := by decide +kernel
theorem zkc_at {j a n : Nat} (h : (List.range' a n).all zchk = true) (h1 : a ≤ j) (h2 : j < a + n) : zchk j = true := List.all_eq_true.mp h j (by rw [List.mem_range']; exact ⟨j - a, by omega, by omega⟩)
theorem zkc_ok : ∀ j, j < 258 → zchk j = true := by
  intro j hj
  by_cases h0 : j < 16
  · exact zkc_at zkc_0 (by omega) (by omega)
  by_cases h1 : j < 32
  · exact zkc_at zkc_1 (by omega) (by omega)
  by_cases h2 : j < 48
  · exact zkc_at zkc_2 (by omega) (by omega)
  by_cases h3 : j < 64
  · exact zkc_at zkc_3 (by omega) (by omega)
  by_cases h4 : j < 80
  · exact zkc_at zkc_4 (by omega) (by omega)
  by_cases h5 : j < 96
  · exact zkc_at zkc_5 (by omega) (by omega)
  by_cases h6 : j < 112
  · exact zkc_at zkc_6 (by omega) (by omega)
  by_cases h7 : j < 128
  · exact zkc_at zkc_7 (by omega) (by omega)
  by_cases h8 : j < 144
  · exact zkc_at zkc_8 (by omega) (by omega)
  by_cases h91 : j < 155
  · exact zkc_at zkc_9a (by omega) (by omega)
  by_cases h92 : j < 156
  · exact zkc_at zkc_9b (by omega) (by omega)
  by_cases h9 : j < 160
  · exact zkc_at zkc_9c (by omega) (by omega)
  by_cases h10 : j < 176
  · exact zkc_at zkc_10 (by omega) (by omega)
  by_cases h11 : j < 192
  · exact zkc_at zkc_11 (by omega) (by omega)
  by_cases h12 : j < 208
  · exact zkc_at zkc_12 (by omega) (by omega)
  by_cases h13 : j < 224
  · exact zkc_at zkc_13 (by omega) (by omega)
  by_cases h14 : j < 240
  · exact zkc_at zkc_14 (by omega) (by omega)
  by_cases h15 : j < 256
  · exact zkc_at zkc_15 (by omega) (by omega)
  exact zkc_at zkc_16 (by omega) (by omega)
