/-! The class: bits counted. -/
theorem n_ush (a s : Nat) (ha : a < 4294967296) (hs : s < 32) : (Int32.toUInt32 (Int32.ofNat a) >>> (Int32.toUInt32 (Int32.ofNat s) &&& Int32.toUInt32 31)).toInt32 = Int32.ofNat (a >>> s) := by
  apply Int32.toBitVec_inj.mp
  show ((UInt32.ofNat a) >>> ((UInt32.ofNat s) &&& (31 : UInt32))).toBitVec = BitVec.ofNat 32 (a >>> s)
  rw [UInt32.toBitVec_shiftRight]
  apply BitVec.eq_of_toNat_eq
  have e : ((UInt32.ofNat s &&& (31 : UInt32)).toBitVec % 32).toNat = s := by
    have : ∀ s : Nat, s < 32 → ((UInt32.ofNat s &&& (31 : UInt32)).toBitVec % 32).toNat = s := by decide +kernel
    exact this s hs
  show (BitVec.ofNat 32 a >>> ((UInt32.ofNat s &&& (31 : UInt32)).toBitVec % 32).toNat).toNat = _
  rw [e, BitVec.toNat_ushiftRight, BitVec.toNat_ofNat, BitVec.toNat_ofNat, Nat.mod_eq_of_lt ha, Nat.mod_eq_of_lt]
  exact Nat.lt_of_le_of_lt (Nat.shiftRight_le a s) ha
theorem tb_add {a Y : Nat} (ha : a < 256) (j : Nat) : (a + 256 * Y).testBit j = if j < 8 then a.testBit j else Y.testBit (j - 8) := by
  rw [Nat.add_comm]
  exact Nat.testBit_two_pow_mul_add Y (i := 8) ha j
/-- masks and shifts go byte by byte -/
theorem by_mask {a k Y M s : Nat} (ha : a < 256) (hk : k < 2 ^ (8 - s)) (hs : s ≤ 8) : ((a + 256 * Y) >>> s) &&& (k + 256 * M) = ((a >>> s) &&& k) + 256 * ((Y >>> s) &&& M) := by
  have hk8 : k < 256 := Nat.lt_of_lt_of_le hk (show 2 ^ (8 - s) ≤ 2 ^ 8 from Nat.pow_le_pow_right (by decide) (by omega))
  have hl : (a >>> s) &&& k < 256 := Nat.lt_of_le_of_lt Nat.and_le_right hk8
  apply Nat.eq_of_testBit_eq
  intro j
  rw [tb_add hl, Nat.testBit_and, Nat.testBit_shiftRight, tb_add ha, tb_add hk8]
  by_cases h : j < 8
  · rw [if_pos h, if_pos h, Nat.testBit_and, Nat.testBit_shiftRight]
    by_cases h2 : s + j < 8
    · rw [if_pos h2]
    · have : k.testBit j = false := Nat.testBit_lt_two_pow (Nat.lt_of_lt_of_le hk (Nat.pow_le_pow_right (by decide) (by omega)))
      rw [this, Bool.and_false, Bool.and_false]
  · rw [if_neg h, if_neg h, if_neg (by omega), Nat.testBit_and, Nat.testBit_shiftRight, show s + j - 8 = s + (j - 8) by omega]
/-- the bits of a number, counted -/
def pcN (x : Nat) : Nat → Nat
  | 0 => 0
  | n + 1 => pcN x n + if x.testBit n then 1 else 0
theorem pcN_add {a Y : Nat} (ha : a < 256) : ∀ n, pcN (a + 256 * Y) (8 + n) = pcN a 8 + pcN Y n
  | 0 => by
    have : ∀ n, n ≤ 8 → pcN (a + 256 * Y) n = pcN a n := by
      intro n
      induction n with
      | zero => intro _; rfl
      | succ n ih =>
        intro h
        have hn : n < 8 := by omega
        rw [pcN, pcN, ih (by omega), tb_add ha, if_pos hn]
    exact this 8 (Nat.le_refl _)
  | n + 1 => by
    have hn : ¬ 8 + n < 8 := by omega
    have e8 : 8 + n - 8 = n := by omega
    have st : pcN (a + 256 * Y) (8 + (n + 1)) = pcN (a + 256 * Y) (8 + n) + if (a + 256 * Y).testBit (8 + n) then 1 else 0 := rfl
    have st2 : pcN Y (n + 1) = pcN Y n + if Y.testBit n then 1 else 0 := rfl
    rw [st, st2, pcN_add ha n, tb_add ha, if_neg hn, e8, Nat.add_assoc]
def bh1 (y : Nat) : Nat := y - ((y >>> 1) &&& 85)
def bh2 (y : Nat) : Nat := (y &&& 51) + ((y >>> 2) &&& 51)
theorem by_tab : ∀ y : Nat, y < 256 → (y >>> 1) &&& 85 ≤ y ∧ bh1 y < 256 ∧ bh2 (bh1 y) ≤ 68 ∧ bh2 (bh1 y) % 16 ≤ 4 ∧ (bh2 (bh1 y) + bh2 (bh1 y) / 16) % 16 = pcN y 8 ∧ pcN y 8 ≤ 8 := by decide +kernel
theorem by_sub {a b A B : Nat} (h : b ≤ a) (h' : B ≤ A) : (a + 256 * A) - (b + 256 * B) = (a - b) + 256 * (A - B) := by omega
theorem pcN_0 : ∀ n, pcN 0 n = 0
  | 0 => rfl
  | n + 1 => by rw [pcN, pcN_0 n, Nat.zero_testBit]; rfl
theorem lit85 : (1431655765 : Nat) = 85 + 256 * (85 + 256 * (85 + 256 * 85)) := by decide +kernel
theorem lit51 : (858993459 : Nat) = 51 + 256 * (51 + 256 * (51 + 256 * 51)) := by decide +kernel
theorem lit15 : (252645135 : Nat) = 15 + 256 * (15 + 256 * (15 + 256 * 15)) := by decide +kernel
theorem by_4 {a b c e k s : Nat} (ha : a < 256) (hb : b < 256) (hc : c < 256) (hk : k < 2 ^ (8 - s)) (hs : s ≤ 8) : ((a + 256 * (b + 256 * (c + 256 * e))) >>> s) &&& (k + 256 * (k + 256 * (k + 256 * k))) = ((a >>> s) &&& k) + 256 * (((b >>> s) &&& k) + 256 * (((c >>> s) &&& k) + 256 * ((e >>> s) &&& k))) := by
  rw [by_mask ha hk hs, by_mask hb hk hs, by_mask hc hk hs]
theorem bc_1 {a b c e : Nat} (ha : a < 256) (hb : b < 256) (hc : c < 256) (he : e < 256) :
    ((a + 256 * (b + 256 * (c + 256 * e))) >>> 1) &&& 1431655765 ≤ a + 256 * (b + 256 * (c + 256 * e)) ∧ a + 256 * (b + 256 * (c + 256 * e)) - (((a + 256 * (b + 256 * (c + 256 * e))) >>> 1) &&& 1431655765) = bh1 a + 256 * (bh1 b + 256 * (bh1 c + 256 * bh1 e)) := by
  obtain ⟨a1, -⟩ := by_tab a ha
  obtain ⟨b1, -⟩ := by_tab b hb
  obtain ⟨c1, -⟩ := by_tab c hc
  obtain ⟨e1, -⟩ := by_tab e he
  rw [lit85, by_4 ha hb hc (by decide) (by decide)]
  unfold bh1
  generalize (a >>> 1) &&& 85 = A at *
  generalize (b >>> 1) &&& 85 = B at *
  generalize (c >>> 1) &&& 85 = C at *
  generalize (e >>> 1) &&& 85 = E at *
  omega
theorem bc_2 {a b c e : Nat} (ha : a < 256) (hb : b < 256) (hc : c < 256) :
    ((a + 256 * (b + 256 * (c + 256 * e))) &&& 858993459) + (((a + 256 * (b + 256 * (c + 256 * e))) >>> 2) &&& 858993459) = bh2 a + 256 * (bh2 b + 256 * (bh2 c + 256 * bh2 e)) := by
  have z := by_4 (a := a) (b := b) (c := c) (e := e) (k := 51) (s := 0) ha hb hc (by decide) (by decide)
  rw [Nat.shiftRight_zero, Nat.shiftRight_zero, Nat.shiftRight_zero, Nat.shiftRight_zero, Nat.shiftRight_zero] at z
  rw [lit51, z, by_4 ha hb hc (by decide) (by decide)]
  unfold bh2
  omega
theorem bc_3 {A B C E : Nat} (hA : A ≤ 68) (hB : B ≤ 68 ∧ B % 16 ≤ 4) (hC : C ≤ 68 ∧ C % 16 ≤ 4) (hE : E ≤ 68 ∧ E % 16 ≤ 4) :
    ((A + 256 * (B + 256 * (C + 256 * E))) + (A + 256 * (B + 256 * (C + 256 * E))) >>> 4) &&& 252645135 = (A + A / 16) % 16 + 256 * ((B + B / 16) % 16 + 256 * ((C + C / 16) % 16 + 256 * ((E + E / 16) % 16))) := by
  have s4 : (A + 256 * (B + 256 * (C + 256 * E))) + (A + 256 * (B + 256 * (C + 256 * E))) >>> 4 = (A + A / 16 + 16 * (B % 16)) + 256 * ((B + B / 16 + 16 * (C % 16)) + 256 * ((C + C / 16 + 16 * (E % 16)) + 256 * (E + E / 16))) := by
    rw [Nat.shiftRight_eq_div_pow]; omega
  have low : ∀ y : Nat, y &&& 15 = y % 16 := fun y => Nat.and_two_pow_sub_one_eq_mod y 4
  have z := by_4 (a := A + A / 16 + 16 * (B % 16)) (b := B + B / 16 + 16 * (C % 16)) (c := C + C / 16 + 16 * (E % 16)) (e := E + E / 16) (k := 15) (s := 0) (by omega) (by omega) (by omega) (by decide) (by decide)
  rw [Nat.shiftRight_zero, Nat.shiftRight_zero, Nat.shiftRight_zero, Nat.shiftRight_zero, Nat.shiftRight_zero] at z
  rw [s4, lit15, z, low, low, low, low]
  omega
theorem bc_4 {p q r t : Nat} (hp : p ≤ 8) (hq : q ≤ 8) (hr : r ≤ 8) (ht : t ≤ 8) :
    (((p + 256 * (q + 256 * (r + 256 * t))) + (p + 256 * (q + 256 * (r + 256 * t))) >>> 8) + ((p + 256 * (q + 256 * (r + 256 * t))) + (p + 256 * (q + 256 * (r + 256 * t))) >>> 8) >>> 16) &&& 63 = p + q + r + t := by
  have e6 : ∀ y : Nat, y &&& 63 = y % 64 := fun y => Nat.and_two_pow_sub_one_eq_mod y 6
  have d1 : (p + 256 * (q + 256 * (r + 256 * t))) >>> 8 = q + 256 * (r + 256 * t) := by rw [Nat.shiftRight_eq_div_pow]; omega
  have d2 : ((p + 256 * (q + 256 * (r + 256 * t))) + (q + 256 * (r + 256 * t))) >>> 16 = (r + t) + 256 * t := by rw [Nat.shiftRight_eq_div_pow]; omega
  have d3 : (p + 256 * (q + 256 * (r + 256 * t))) + (q + 256 * (r + 256 * t)) + ((r + t) + 256 * t) = (p + q + r + t) + 64 * (4 * (q + r + t) + 1024 * (r + t) + 262144 * t) := by omega
  rw [e6, d1, d2, d3, Nat.add_mul_mod_self_left, Nat.mod_eq_of_lt (by omega)]
theorem bc_core {A B C E p q r t x2 x3 : Nat} (hA : A ≤ 68 ∧ A % 16 ≤ 4 ∧ (A + A / 16) % 16 = p ∧ p ≤ 8) (hB : B ≤ 68 ∧ B % 16 ≤ 4 ∧ (B + B / 16) % 16 = q ∧ q ≤ 8) (hC : C ≤ 68 ∧ C % 16 ≤ 4 ∧ (C + C / 16) % 16 = r ∧ r ≤ 8) (hE : E ≤ 68 ∧ E % 16 ≤ 4 ∧ (E + E / 16) % 16 = t ∧ t ≤ 8)
    (h2 : x2 = A + 256 * (B + 256 * (C + 256 * E))) (h3 : x3 = (x2 + x2 >>> 4) &&& 252645135) : x2 < 1200000000 ∧ x3 < 140000000 ∧ ((x3 + x3 >>> 8) + (x3 + x3 >>> 8) >>> 16) &&& 63 = p + q + r + t := by
  subst h2
  rw [bc_3 hA.1 ⟨hB.1, hB.2.1⟩ ⟨hC.1, hC.2.1⟩ ⟨hE.1, hE.2.1⟩, hA.2.2.1, hB.2.2.1, hC.2.2.1, hE.2.2.1] at h3
  subst h3
  exact ⟨by omega, by omega, bc_4 hA.2.2.2 hB.2.2.2 hC.2.2.2 hE.2.2.2⟩
theorem by_ex (x : Nat) (hx : x < 4294967296) : ∃ a b c e, (a < 256 ∧ b < 256 ∧ c < 256 ∧ e < 256) ∧ x = a + 256 * (b + 256 * (c + 256 * e)) := ⟨x % 256, x / 256 % 256, x / 65536 % 256, x / 16777216, by omega, by omega⟩
/-- the way of Integer.bitCount -/
theorem bc_nat {x x1 x2 x3 : Nat} (hx : x < 4294967296) (h1 : x1 = x - ((x >>> 1) &&& 1431655765)) (h2 : x2 = (x1 &&& 858993459) + ((x1 >>> 2) &&& 858993459)) (h3 : x3 = (x2 + x2 >>> 4) &&& 252645135) :
    (x >>> 1) &&& 1431655765 ≤ x ∧ x1 < 4294967296 ∧ x2 < 1200000000 ∧ x3 < 140000000 ∧ ((x3 + x3 >>> 8) + (x3 + x3 >>> 8) >>> 16) &&& 63 = pcN x 32 := by
  obtain ⟨a, b, c, e, ⟨ha, hb, hc, he⟩, ex⟩ := by_ex x hx
  have q1 : pcN (a + 256 * (b + 256 * (c + 256 * e))) 32 = pcN a 8 + pcN (b + 256 * (c + 256 * e)) 24 := pcN_add ha 24
  have q2 : pcN (b + 256 * (c + 256 * e)) 24 = pcN b 8 + pcN (c + 256 * e) 16 := pcN_add hb 16
  have q3 : pcN (c + 256 * e) 16 = pcN c 8 + pcN e 8 := pcN_add hc 8
  have hA := by_tab a ha
  have hB := by_tab b hb
  have hC := by_tab c hc
  have hE := by_tab e he
  obtain ⟨k1, k2⟩ := bc_1 ha hb hc he
  have hx1 : x1 < 4294967296 := by rw [h1]; exact Nat.lt_of_le_of_lt (Nat.sub_le _ _) hx
  rw [ex, k2] at h1
  rw [h1, bc_2 hA.2.1 hB.2.1 hC.2.1] at h2
  obtain ⟨r1, r2, r3⟩ := bc_core hA.2.2 hB.2.2 hC.2.2 hE.2.2 h2 h3
  refine ⟨by rw [ex]; exact k1, hx1, r1, r2, ?_⟩
  rw [r3, ex, q1, q2, q3, Nat.add_assoc, Nat.add_assoc]
section BITC
variable {d : Nat} {mi : zI} {ml : zJ} {X : zS} {fr nx : Nat} {P : zR0}
theorem t_50 {K : Int32 → zI → zJ → Prop} {x : Nat} (hx : x < 4294967296) (h : K (Int32.ofNat (pcN x 32)) mi ml) : TI (d + 1) 50 [.int (Int32.ofNat x)] (zCS ++ X) (zCR fr nx P) mi ml K := by
  obtain ⟨h1, h3, h4, h5, h6⟩ := bc_nat hx rfl rfl rfl
  refine TI_of (B_50 _ ?_)
  have u1 : (Int32.toUInt32 (Int32.ofNat x) >>> (Int32.toUInt32 1 &&& Int32.toUInt32 31)).toInt32 &&& (1431655765 : Int32) = Int32.ofNat ((x >>> 1) &&& 1431655765) := by
    rw [← n_and, ← n_ush x 1 hx (by decide)]; rfl
  rw [u1, n_sub h1]
  generalize x - ((x >>> 1) &&& 1431655765) = x1 at *
  have u2 : (Int32.ofNat x1 &&& (858993459 : Int32)) + ((Int32.toUInt32 (Int32.ofNat x1) >>> (Int32.toUInt32 2 &&& Int32.toUInt32 31)).toInt32 &&& (858993459 : Int32)) = Int32.ofNat ((x1 &&& 858993459) + ((x1 >>> 2) &&& 858993459)) := by
    rw [← n_add, ← n_and, ← n_and, ← n_ush x1 2 h3 (by decide)]; rfl
  rw [u2]
  generalize (x1 &&& 858993459) + ((x1 >>> 2) &&& 858993459) = x2 at *
  have u3 : (Int32.ofNat x2 + (Int32.toUInt32 (Int32.ofNat x2) >>> (Int32.toUInt32 4 &&& Int32.toUInt32 31)).toInt32) &&& (252645135 : Int32) = Int32.ofNat ((x2 + x2 >>> 4) &&& 252645135) := by
    rw [← n_and, ← n_add, ← n_ush x2 4 (by omega) (by decide)]; rfl
  rw [u3]
  generalize (x2 + x2 >>> 4) &&& 252645135 = x3 at *
  have u4 : Int32.ofNat x3 + (Int32.toUInt32 (Int32.ofNat x3) >>> (Int32.toUInt32 8 &&& Int32.toUInt32 31)).toInt32 = Int32.ofNat (x3 + x3 >>> 8) := by
    rw [← n_add, ← n_ush x3 8 (by omega) (by decide)]; rfl
  rw [u4]
  have h8 : x3 + x3 >>> 8 < 4294967296 := by rw [Nat.shiftRight_eq_div_pow]; omega
  generalize x3 + x3 >>> 8 = x4 at *
  have u5 : (Int32.ofNat x4 + (Int32.toUInt32 (Int32.ofNat x4) >>> (Int32.toUInt32 16 &&& Int32.toUInt32 31)).toInt32) &&& (63 : Int32) = Int32.ofNat ((x4 + x4 >>> 16) &&& 63) := by
    rw [← n_and, ← n_add, ← n_ush x4 16 h8 (by decide)]; rfl
  rw [u5, h6]
  exact h
end BITC
