-- @after: 00.privs 01.names 02.code 03.tabs 04.mach 05.rows 26.rows2 27.wp 28.mem 30.bc0 34.bm0 35.bm1 40.num 41.leaf 42.laws 43.known 44.post 45.holds 46.worth 47.barred
/-! The model: what can be in one boat. -/
def sPair (a b : Nat) : Nat := if b ≤ a then a * (a - 1) / 2 + b else b * (b - 1) / 2 + a
theorem n_pair : ∀ a : Nat, a < 5 → ∀ b : Nat, b < 5 → (Int32.ofNat a * (Int32.ofNat a - 1)) / 2 + Int32.ofNat b = Int32.ofNat (a * (a - 1) / 2 + b) := by decide +kernel
section LOOKS
variable {d : Nat} {ml : zJ}
theorem t_158 {K : Int32 → zI → zJ → Prop} {mi : zI} {a b : Nat} (ha : a < 5) (hb : b < 5) (h : K (Int32.ofNat (sPair a b)) mi ml) : TI (d + 1) 158 [.int (Int32.ofNat a), .int (Int32.ofNat b)] zMS zMR mi ml K := by
  refine TI_of (B_158 _ _ ⟨fun e => ⟨by decide, ?_⟩, fun e => ⟨by decide, ?_⟩⟩)
  · have e := (n_le (by omega) (by omega)).mp e
    rw [n_pair a ha b hb]
    unfold sPair at h; rw [if_pos e] at h; exact h
  · have e : ¬ b ≤ a := fun q => e ((n_le (by omega) (by omega)).mpr q)
    rw [n_pair b hb a ha]
    unfold sPair at h; rw [if_neg e] at h; exact h
end LOOKS
