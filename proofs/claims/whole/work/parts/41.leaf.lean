-- @after: 00.privs 01.names 02.code 03.tabs 04.mach 05.rows 26.rows2 27.wp 28.mem 30.bc0 34.bm0 40.num
/-! The model's small methods. -/
/-- bits 0 to n - 1, counted -/
def sOnes (x : Int32) : Nat → Int32
  | 0 => 0
  | n + 1 => sOnes x n + ((x >>> (Int32.ofNat n &&& 31)) &&& 1)
section LEAF
variable {d : Nat} {mi : zI} {ml : zJ}
theorem t_184_at {Q : zQ} (x : Int32) (h : Q (some (.int (sOnes x 10))) mi ml) : ∀ m k : Nat, k + m = 10 → Wf (d + 1) 184 4 [.int x, .int (sOnes x k), .int (Int32.ofNat k)] [] zMS zMR mi ml Q
  | 0, k, e => by
    obtain rfl : k = 10 := by omega
    exact B_184_4 _ _ _ ⟨fun _ => h, fun n => absurd (Int32.le_refl _) n⟩
  | m + 1, k, e => by
    refine B_184_4 _ _ _ ⟨fun n => absurd ((n_le (a := 10) (by omega) (by omega)).mp n) (by omega), fun _ => ?_⟩
    rw [n_suc]
    exact t_184_at x h m (k + 1) (by omega)
theorem t_184 {K : Int32 → zI → zJ → Prop} (x : Int32) (h : K (sOnes x 10) mi ml) : TI (d + 1) 184 [.int x] zMS zMR mi ml K :=
  TI_of (B_184 _ (t_184_at x h 10 0 (by omega)))
/-- in -/
theorem t_157 {K : Int32 → zI → zJ → Prop} {a b c : Int32} (h : K (if b ≤ a ∧ a ≤ c then 1 else 0) mi ml) : TI (d + 1) 157 [.int a, .int b, .int c] zMS zMR mi ml K := by
  refine TI_of (B_157 _ _ _ ⟨fun e => ?_, fun e => ⟨fun e1 => ?_, fun e1 => ?_⟩⟩)
  · rw [if_neg (fun q => absurd e (Int32.not_lt.mpr q.1))] at h; exact h
  · rw [if_neg (fun q => absurd e1 (Int32.not_lt.mpr q.2))] at h; exact h
  · rw [if_pos ⟨Int32.not_lt.mp e, Int32.not_lt.mp e1⟩] at h; exact h
end LEAF
