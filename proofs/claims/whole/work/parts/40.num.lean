-- @after: 00.privs 01.names 02.code 03.tabs 04.mach 05.rows 26.rows2 27.wp 28.mem
/-! Small numbers as Int32; places of memories. -/
theorem n_cl {k : Nat} (h : k < 2147483648) : (Int32.ofNat k).toNatClampNeg = k := Int32.toNatClampNeg_ofNat_of_lt (by simpa using h)
theorem n_int {k : Nat} (h : k < 2147483648) : (Int32.ofNat k).toInt = k := Int32.toInt_ofNat_of_lt (by simpa using h)
theorem n_add (a b : Nat) : Int32.ofNat a + Int32.ofNat b = Int32.ofNat (a + b) := (Int32.ofNat_add a b).symm
theorem n_suc (a : Nat) : Int32.ofNat a + 1 = Int32.ofNat (a + 1) := n_add a 1
theorem n_le {a b : Nat} (ha : a < 2147483648) (hb : b < 2147483648) : Int32.ofNat a ≤ Int32.ofNat b ↔ a ≤ b := by
  rw [Int32.le_iff_toInt_le, n_int ha, n_int hb]; omega
theorem n_lt {a b : Nat} (ha : a < 2147483648) (hb : b < 2147483648) : Int32.ofNat a < Int32.ofNat b ↔ a < b := by
  rw [Int32.lt_iff_toInt_lt, n_int ha, n_int hb]; omega
theorem n_eq {a b : Nat} (ha : a < 2147483648) (hb : b < 2147483648) : Int32.ofNat a = Int32.ofNat b ↔ a = b := by
  rw [← Int32.toInt_inj, n_int ha, n_int hb]; omega
theorem n_zin {k n : Nat} (h : k < n) (hn : n < 2147483648) : zin (Int32.ofNat k) n = true := by
  unfold zin
  rw [decide_eq_true_iff, n_cl (by omega)]
  intro e
  rcases e with e | e
  · exact absurd ((n_lt (b := 0) (by omega) (by omega)).mp e) (by omega)
  · omega
/-- an Int32 that is not below 0 is a small number -/
theorem n_nat {x : Int32} (h : ¬ x < 0) : ∃ k : Nat, k < 2147483648 ∧ x = Int32.ofNat k := by
  have h0 : 0 ≤ x.toInt := by
    rw [Int32.lt_iff_toInt_lt] at h
    have e : (0 : Int32).toInt = 0 := rfl
    omega
  have h1 := Int32.toInt_lt x
  refine ⟨x.toInt.toNat, by omega, ?_⟩
  rw [← Int32.toInt_inj, n_int (by omega)]
  omega
theorem zu_eq {α : Type} {f : Nat → Nat → α} {c k : Nat} {v : α} : zu f c k v c k = v := by simp [zu]
theorem zu_ne {α : Type} {f : Nat → Nat → α} {c k a b : Nat} {v : α} (h : ¬ (a = c ∧ b = k)) : zu f c k v a b = f a b := by simp [zu, h]
theorem zu_nc {α : Type} {f : Nat → Nat → α} {c k a b : Nat} {v : α} (h : a ≠ c) : zu f c k v a b = f a b := by simp [zu, h]
theorem zu_nk {α : Type} {f : Nat → Nat → α} {c k b : Nat} {v : α} (h : b ≠ k) : zu f c k v c b = f c b := by simp [zu, h]
