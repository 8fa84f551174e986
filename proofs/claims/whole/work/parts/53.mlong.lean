-- @after: 00.privs 01.names 02.code 03.tabs 04.mach 05.rows 26.rows2 27.wp 28.mem 30.bc0 34.bm0 35.bm1 36.bm2 40.num 41.leaf 42.laws 43.known 44.post 45.holds 46.worth 47.barred 48.looks 49.looks2 50.goes 51.mays 52.mgroup
/-! The model: the longest rows. -/
def gpN (g : Nat) : Nat := (gPairs g).toNatClampNeg
theorem gpN_ok : ∀ g : Nat, g < 32 → gPairs g = Int32.ofNat (gpN g) ∧ gpN g < 1024 := by decide +kernel
theorem n_or (a b : Nat) : Int32.ofNat a ||| Int32.ofNat b = Int32.ofNat (a ||| b) := by
  apply Int32.toBitVec_inj.mp
  simp [Int32.toBitVec_or, BitVec.ofNat_or]
theorem n_xor (a b : Nat) : Int32.ofNat a ^^^ Int32.ofNat b = Int32.ofNat (a ^^^ b) := by
  apply Int32.toBitVec_inj.mp
  simp [Int32.toBitVec_xor, BitVec.ofNat_xor]
def lSt (k w a : Nat) : Nat := 64 * k + 2 * w + a
section MLONG
variable {d : Nat} {ml : zJ}
theorem t_203 {K : Int32 → zI → zJ → Prop} {mi : zI} {k w a : Nat} (h : K (Int32.ofNat (lSt k w a)) mi ml) : TI (d + 1) 203 [.int (Int32.ofNat k), .int (Int32.ofNat w), .int (Int32.ofNat a)] zMS zMR mi ml K := by
  refine TI_of (B_203 _ _ _ ?_)
  have e : (64 : Int32) * Int32.ofNat k + 2 * Int32.ofNat w + Int32.ofNat a = Int32.ofNat (lSt k w a) := by
    show Int32.ofNat 64 * Int32.ofNat k + Int32.ofNat 2 * Int32.ofNat w + Int32.ofNat a = _
    rw [← Int32.ofNat_mul, ← Int32.ofNat_mul, n_add, n_add]; rfl
  rw [e]; exact h
/-- a group of two or more may go: all are with the boat and no pair of it is closed -/
abbrev lCan (mi : zI) (k w a g : Nat) : Prop := 3 ≤ g ∧ ¬ sOnes (Int32.ofNat g) 10 ≤ 1 ∧ mMay mi g (Int32.ofNat k) (Int32.ofNat w) (Int32.ofNat a)
/-- the longest row, by the table of what comes after -/
def lgOf (mi : zI) (tb : Nat → Nat → Nat → Int32) (k w a : Nat) : Nat → Int32
  | 0 => 0
  | g + 1 => if lCan mi k w a g then (if 1 + tb (k ||| gpN g) (w ^^^ g) (1 - a) ≤ lgOf mi tb k w a g then lgOf mi tb k w a g else 1 + tb (k ||| gpN g) (w ^^^ g) (1 - a)) else lgOf mi tb k w a g
theorem lgOf_3 (mi : zI) (tb : Nat → Nat → Nat → Int32) (k w a : Nat) : lgOf mi tb k w a 3 = 0 := by
  rw [lgOf, if_neg (fun q => absurd q.1 (by decide)), lgOf, if_neg (fun q => absurd q.1 (by decide)), lgOf, if_neg (fun q => absurd q.1 (by decide)), lgOf]
def lTab (mi : zI) (k w a : Nat) : Int32 := mi 26 (lSt k w a)
theorem lSt_lt {k w a : Nat} (hk : k < 1024) (hw : w < 32) (ha : a < 2) : lSt k w a < 65536 := by unfold lSt; omega
theorem t_204_at {Q : zQ} {mi : zI} {k w a : Nat} (hk : k < 1024) (hw : w < 32) (ha : a < 2) (hg : ∀ g, g < 32 → mi 23 g = gPairs g) (h : Q (some (.int (lgOf mi (lTab mi) k w a 32))) mi ml) :
    ∀ m g : Nat, g + m = 32 → 3 ≤ g → Wf (d + 3) 204 5 [.ref 0, .int (Int32.ofNat k), .int (Int32.ofNat w), .int (Int32.ofNat a), .int (lgOf mi (lTab mi) k w a g), .int (Int32.ofNat g), .retAddr 0] [] zMS zMR mi ml Q
  | 0, g, e, h3 => by
    obtain rfl : g = 32 := by omega
    exact B_204_5 _ _ _ _ _ ⟨fun _ => h, fun n => absurd (show (32 : Int32) ≤ Int32.ofNat 32 by decide) n⟩
  | m + 1, g, e, h3 => by
    have hz : zin (Int32.ofNat g) 32 = true := n_zin (by omega) (by omega)
    have ih := t_204_at hk hw ha hg h m (g + 1) (by omega) (by omega)
    rw [lgOf] at ih
    obtain ⟨p1, p2⟩ := gpN_ok g (by omega)
    have h1a : (1 : Int32) - Int32.ofNat a = Int32.ofNat (1 - a) := by
      have : a = 0 ∨ a = 1 := by omega
      rcases this with rfl | rfl <;> decide
    have hk' : k ||| gpN g < 1024 := Nat.or_lt_two_pow (n := 10) (by omega) (by omega)
    have hw' : w ^^^ g < 32 := Nat.xor_lt_two_pow (n := 5) (by omega) (by omega)
    have hs := lSt_lt hk' hw' (show 1 - a < 2 by omega)
    refine B_204_5 _ _ _ _ _ ⟨fun n => absurd ((n_le (a := 32) (by omega) (by omega)).mp n) (by omega), fun _ => t_184 _ ⟨fun n => ?_, fun n => t_195 (by omega) ⟨fun n1 => ?_, fun n1 => ⟨hz, ?_⟩⟩⟩⟩
    · rw [if_neg (fun q => q.2.1 n)] at ih
      rw [n_suc]; exact ih
    · rw [if_neg (fun q => by rw [if_pos q.2.2] at n1; exact absurd n1 (by decide))] at ih
      rw [n_suc]; exact ih
    · have hm : mMay mi g (Int32.ofNat k) (Int32.ofNat w) (Int32.ofNat a) := Decidable.byContradiction fun q => n1 (by rw [if_neg q])
      rw [if_pos ⟨h3, n, hm⟩] at ih
      rw [n_suc, n_cl (by omega), hg g (by omega), p1, n_or, n_xor, h1a]
      refine t_203 ⟨n_zin hs (by omega), ?_⟩
      rw [n_cl (by omega), show mi 26 (lSt (k ||| gpN g) (w ^^^ g) (1 - a)) = lTab mi (k ||| gpN g) (w ^^^ g) (1 - a) from rfl]
      refine ⟨fun q => ?_, fun q => ?_⟩
      · rw [if_pos q] at ih; exact ih
      · rw [if_neg q] at ih; exact ih
theorem t_204 {K : Int32 → zI → zJ → Prop} {mi : zI} {k w a : Nat} (hk : k < 1024) (hw : w < 32) (ha : a < 2) (hg : ∀ g, g < 32 → mi 23 g = gPairs g) (h : K (lgOf mi (lTab mi) k w a 32) mi ml) : TI (d + 3) 204 [.ref 0, .int (Int32.ofNat k), .int (Int32.ofNat w), .int (Int32.ofNat a)] zMS zMR mi ml K := by
  refine TI_of (B_204 _ _ _ ?_)
  have q := t_204_at (d := d) (Q := qI K) hk hw ha hg h 29 3 rfl (by decide)
  rw [lgOf_3] at q
  exact q
end MLONG
