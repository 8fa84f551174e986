/-! Numbers of four bits in a long. -/
def nib (x : Int64) (i : Nat) : Nat := (x.toBitVec.toNat >>> (4 * i)) &&& 15
theorem and15 (y : Nat) : y &&& 15 = y % 16 := Nat.and_two_pow_sub_one_eq_mod y 4
theorem nib_lt (x : Int64) (i : Nat) : nib x i < 16 := by unfold nib; rw [and15]; omega
/-- the shift -/
def nSh (i : Nat) : Int32 := (Int32.ofNat i &&& 15) * 4
theorem nSh_64 : ∀ i : Nat, i < 16 → ((nSh i).toInt64.toUInt64 &&& Int64.toUInt64 63).toBitVec.toNat % 64 = 4 * i ∧ ((nSh i).toInt64 &&& 63).toBitVec.smod 64 = BitVec.ofNat 64 (4 * i) := by decide +kernel
theorem nib_get (x : Int64) (i : Nat) (hi : i < 16) : (Int64.toInt32 ((Int64.toUInt64 x >>> ((nSh i).toInt64.toUInt64 &&& Int64.toUInt64 63)).toInt64)) &&& 15 = Int32.ofNat (nib x i) := by
  obtain ⟨s1, -⟩ := nSh_64 i hi
  apply Int32.toBitVec_inj.mp
  rw [Int32.toBitVec_and]
  apply BitVec.eq_of_toNat_eq
  rw [BitVec.toNat_and]
  have e1 : (Int64.toInt32 ((Int64.toUInt64 x >>> ((nSh i).toInt64.toUInt64 &&& Int64.toUInt64 63)).toInt64)).toBitVec.toNat = (x.toBitVec.toNat >>> (4 * i)) % 2 ^ 32 := by
    rw [Int64.toBitVec_toInt32, BitVec.signExtend_eq_setWidth_of_le _ (by decide)]
    show (BitVec.setWidth 32 ((Int64.toUInt64 x >>> ((nSh i).toInt64.toUInt64 &&& Int64.toUInt64 63)).toBitVec)).toNat = _
    rw [BitVec.toNat_setWidth, UInt64.toBitVec_shiftRight]
    show ((x.toBitVec >>> (((nSh i).toInt64.toUInt64 &&& Int64.toUInt64 63).toBitVec % 64).toNat).toNat) % 2 ^ 32 = _
    rw [BitVec.toNat_ushiftRight, BitVec.toNat_umod]
    show x.toBitVec.toNat >>> (((nSh i).toInt64.toUInt64 &&& Int64.toUInt64 63).toBitVec.toNat % 64) % 2 ^ 32 = _
    rw [s1]
  have e2 : ((15 : Int32).toBitVec).toNat = 15 := rfl
  have e3 : (Int32.ofNat (nib x i)).toBitVec.toNat = nib x i := by
    show (BitVec.ofNat 32 (nib x i)).toNat = _
    rw [BitVec.toNat_ofNat]
    have := nib_lt x i
    omega
  rw [e1, e2, e3]
  unfold nib
  rw [and15, and15]
  omega
theorem nib_put (x : Int64) (i q : Nat) (hi : i < 16) (hq : q < 16) (j : Nat) (hj : j < 16) : nib (x ^^^ ((Int32.ofNat q).toInt64 <<< ((nSh i).toInt64 &&& 63))) j = if j = i then nib x i ^^^ q else nib x j := by
  obtain ⟨-, s2⟩ := nSh_64 i hi
  have e1 : (x ^^^ ((Int32.ofNat q).toInt64 <<< ((nSh i).toInt64 &&& 63))).toBitVec = x.toBitVec ^^^ (BitVec.ofNat 64 q <<< (4 * i)) := by
    rw [Int64.toBitVec_xor, Int64.toBitVec_shiftLeft, s2, l_of (by omega)]
    show x.toBitVec ^^^ (BitVec.ofNat 64 q <<< (BitVec.ofNat 64 (4 * i)).toNat) = _
    rw [BitVec.toNat_ofNat, Nat.mod_eq_of_lt (by omega)]
  have bit : ∀ k : Nat, k < 4 → (nib (x ^^^ ((Int32.ofNat q).toInt64 <<< ((nSh i).toInt64 &&& 63))) j).testBit k = (x.toBitVec.getLsbD (4 * j + k) ^^ (decide (4 * i ≤ 4 * j + k) && q.testBit (4 * j + k - 4 * i))) := by
    intro k hk
    unfold nib
    rw [Nat.testBit_and, Nat.testBit_shiftRight, e1]
    have e15 : (15 : Nat).testBit k = true := by
      have : ∀ k : Nat, k < 4 → (15 : Nat).testBit k = true := by decide
      exact this k hk
    rw [e15, Bool.and_true]
    show (x.toBitVec ^^^ (BitVec.ofNat 64 q <<< (4 * i))).getLsbD (4 * j + k) = _
    rw [BitVec.getLsbD_xor, BitVec.getLsbD_shiftLeft, BitVec.getLsbD_ofNat]
    have h64 : 4 * j + k < 64 := by omega
    have h64' : 4 * j + k - 4 * i < 64 := by omega
    by_cases hc : 4 * j + k < 4 * i
    · have h2 : ¬ 4 * i ≤ 4 * j + k := by omega
      simp [h64, hc, h2]
    · have : 4 * i ≤ 4 * j + k := by omega
      simp [h64, h64', hc, this]
  have old : ∀ (j k : Nat), j < 16 → k < 4 → (nib x j).testBit k = x.toBitVec.getLsbD (4 * j + k) := by
    intro j k hj hk
    unfold nib
    rw [Nat.testBit_and, Nat.testBit_shiftRight]
    have e15 : (15 : Nat).testBit k = true := by
      have : ∀ k : Nat, k < 4 → (15 : Nat).testBit k = true := by decide
      exact this k hk
    rw [e15, Bool.and_true]
    rfl
  have big : ∀ y k : Nat, y < 16 → ¬ k < 4 → y.testBit k = false := fun y k hy hk => Nat.testBit_lt_two_pow (Nat.lt_of_lt_of_le hy (show 16 ≤ 2 ^ k from Nat.pow_le_pow_right (n := 2) (i := 4) (by decide) (by omega)))
  apply Nat.eq_of_testBit_eq
  intro k
  by_cases hk : k < 4
  · rw [bit k hk]
    by_cases e : j = i
    · subst e
      rw [if_pos rfl, Nat.testBit_xor, old j k hj hk]
      have : 4 * j + k - 4 * j = k := by omega
      rw [this]
      simp
    · rw [if_neg e, old j k hj hk]
      by_cases hlt : 4 * i ≤ 4 * j + k
      · have : ¬ 4 * j + k - 4 * i < 4 := by omega
        rw [big q _ hq this]; simp
      · simp [hlt]
  · have hl : (if j = i then nib x i ^^^ q else nib x j) < 16 := by
      split
      · exact Nat.xor_lt_two_pow (n := 4) (nib_lt x i) hq
      · exact nib_lt x j
    rw [big _ k (nib_lt _ j) hk, big _ k hl hk]
theorem nib_all (i : Nat) (hi : i < 16) : nib (-1) i = 15 := by
  have : ∀ i : Nat, i < 16 → nib (-1) i = 15 := by decide +kernel
  exact this i hi
