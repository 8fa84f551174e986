-- @after: 00.privs 01.names 02.code 03.tabs 04.mach 05.rows 26.rows2 27.wp 28.mem 30.bc0 34.bm0 35.bm1 36.bm2 40.num 41.leaf 42.laws 43.known 44.post 45.holds 46.worth 47.barred 48.looks 49.looks2 50.goes 51.mays 52.mgroup
/-! The model: the longest rows. -/
def gpN (g : Nat) : Nat := (gPairs g).toNatClampNeg
theorem gpN_ok : ∀ g : Nat, g < 32 → gPairs g = Int32.ofNat (gpN g) ∧ gpN g < 1024 := by decide +kernel
theorem n_or (a b : Nat) : Int32.ofNat a ||| Int32.ofNat b = Int32.ofNat (a ||| b) := by
  apply Int32.toBitVec_inj.mp
  simp [Int32.toBitVec_or, BitVec.ofNat_or]
theorem n_xor (a b : Nat) : Int32.ofNat a ^^^ Int32.ofNat b = Int32.ofNat (a ^^^ b) := by
  apply Int32.toBitVec_inj.mp
  simp [Int32.toBitVec_xor, BitVec.ofNat_xor]
def lSt (k w a : Nat) : Nat := 64 * k + 2 * w + a
section MLONG
variable {d : Nat} {ml : zJ}
theorem t_203 {K : Int32 → zI → zJ → Prop} {mi : zI} {k w a : Nat} (h : K (Int32.ofNat (lSt k w a)) mi ml) : TI (d + 1) 203 [.int (Int32.ofNat k), .int (Int32.ofNat w), .int (Int32.ofNat a)] zMS zMR mi ml K := by
  refine TI_of (B_203 _ _ _ ?_)
  have e : (64 : Int32) * Int32.ofNat k + 2 * Int32.ofNat w + Int32.ofNat a = Int32.ofNat (lSt k w a) := by
    show Int32.ofNat 64 * Int32.ofNat k + Int32.ofNat 2 * Int32.ofNat w + Int32.ofNat a = _
    rw [← Int32.ofNat_mul, ← Int32.ofNat_mul, n_add, n_add]; rfl
  rw [e]; exact h
end MLONG
