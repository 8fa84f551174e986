-- the checks, decided (258 methods, 212 sites, 153 fields)
set_option maxRecDepth 1000000 in
theorem zkv_0 : (List.range' 0 32).all zchv = true := by decide +kernel
set_option maxRecDepth 1000000 in
theorem zkv_1 : (List.range' 32 32).all zchv = true := by decide +kernel
set_option maxRecDepth 1000000 in
theorem zkv_2 : (List.range' 64 32).all zchv = true := by decide +kernel
set_option maxRecDepth 1000000 in
theorem zkv_3 : (List.range' 96 32).all zchv = true := by decide +kernel
set_option maxRecDepth 1000000 in
theorem zkv_4 : (List.range' 128 32).all zchv = true := by decide +kernel
set_option maxRecDepth 1000000 in
theorem zkv_5 : (List.range' 160 32).all zchv = true := by decide +kernel
set_option maxRecDepth 1000000 in
theorem zkv_6 : (List.range' 192 20).all zchv = true := by decide +kernel
theorem zkv_at {j a n : Nat} (h : (List.range' a n).all zchv = true) (h1 : a ≤ j) (h2 : j < a + n) : zchv j = true := List.all_eq_true.mp h j (by rw [List.mem_range']; exact ⟨j - a, by omega, by omega⟩)
theorem zkv_ok : ∀ j, j < 212 → zchv j = true := by
  intro j hj
  by_cases h0 : j < 32
  · exact zkv_at zkv_0 (by omega) (by omega)
  by_cases h1 : j < 64
  · exact zkv_at zkv_1 (by omega) (by omega)
  by_cases h2 : j < 96
  · exact zkv_at zkv_2 (by omega) (by omega)
  by_cases h3 : j < 128
  · exact zkv_at zkv_3 (by omega) (by omega)
  by_cases h4 : j < 160
  · exact zkv_at zkv_4 (by omega) (by omega)
  by_cases h5 : j < 192
  · exact zkv_at zkv_5 (by omega) (by omega)
  exact zkv_at zkv_6 (by omega) (by omega)
set_option maxRecDepth 1000000 in
theorem zkf_0 : (List.range' 0 32).all zchf = true := by decide +kernel
set_option maxRecDepth 1000000 in
theorem zkf_1 : (List.range' 32 32).all zchf = true := by decide +kernel
set_option maxRecDepth 1000000 in
theorem zkf_2 : (List.range' 64 32).all zchf = true := by decide +kernel
set_option maxRecDepth 1000000 in
theorem zkf_3 : (List.range' 96 32).all zchf = true := by decide +kernel
set_option maxRecDepth 1000000 in
theorem zkf_4 : (List.range' 128 25).all zchf = true := by decide +kernel
theorem zkf_at {j a n : Nat} (h : (List.range' a n).all zchf = true) (h1 : a ≤ j) (h2 : j < a + n) : zchf j = true := List.all_eq_true.mp h j (by rw [List.mem_range']; exact ⟨j - a, by omega, by omega⟩)
theorem zkf_ok : ∀ j, j < 153 → zchf j = true := by
  intro j hj
  by_cases h0 : j < 32
  · exact zkf_at zkf_0 (by omega) (by omega)
  by_cases h1 : j < 64
  · exact zkf_at zkf_1 (by omega) (by omega)
  by_cases h2 : j < 96
  · exact zkf_at zkf_2 (by omega) (by omega)
  by_cases h3 : j < 128
  · exact zkf_at zkf_3 (by omega) (by omega)
  exact zkf_at zkf_4 (by omega) (by omega)
