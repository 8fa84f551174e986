-- @after: 00.privs 01.names 02.code 03.tabs 04.mach 05.rows 26.rows2 27.wp 28.mem 30.bc0 34.bm0 35.bm1 36.bm2 40.num 41.leaf 42.laws 43.known 44.post 45.holds 46.worth 47.barred 48.looks 49.looks2 50.goes 51.mays
/-! The model: group, groups, cross. -/
section MGROUP
variable {d : Nat} {ml : zJ}
abbrev mIsG (mi : zI) (a : Int32) : Prop := 0 < a ∧ a < (1 : Int32) <<< (mi 0 0 &&& 31)
theorem t_190 {K : Int32 → zI → zJ → Prop} {mi : zI} {a : Int32} (h : K (if mIsG mi a then 1 else 0) mi ml) : TI (d + 1) 190 [.ref 0, .int a] zMS zMR mi ml K := by
  refine TI_of (B_190 _ ⟨fun e => ?_, fun e => ⟨fun e1 => ?_, fun e1 => ?_⟩⟩)
  · rw [if_neg (fun q => absurd e (Int32.not_le.mpr q.1))] at h; exact h
  · rw [if_neg (fun q => absurd e1 (Int32.not_le.mpr q.2))] at h; exact h
  · rw [if_pos ⟨Int32.not_le.mp e, Int32.not_le.mp e1⟩] at h; exact h
/-- a group of people that are there is a small number -/
theorem mIsG_nat {mi : zI} (hp : iP mi) {a : Int32} (h : mIsG mi a) : ∃ g : Nat, 1 ≤ g ∧ g < 2 ^ mPe mi ∧ g < 32 ∧ a = Int32.ofNat g := by
  obtain ⟨q1, q2⟩ := iP_of hp
  have hs : ∀ p : Nat, p < 6 → (1 : Int32) <<< (Int32.ofNat p &&& 31) = Int32.ofNat (2 ^ p) ∧ 2 ^ p ≤ 32 := by decide +kernel
  obtain ⟨s1, s2⟩ := hs _ q2
  obtain ⟨g, hg, rfl⟩ := n_nat (x := a) (Int32.not_lt.mpr (Int32.le_of_lt h.1))
  have h2 := h.2
  rw [q1, s1, n_lt hg (by omega)] at h2
  have h1 := (n_lt (a := 0) (by omega) hg).mp h.1
  exact ⟨g, by omega, h2, by omega, rfl⟩
theorem iG.s {m0 mi : zI} {tk : Nat → List Nat} {n : Nat} (h : iG m0 tk n mi) : mS m0 mi := h.1.s hi4
theorem iG.pair {m0 mi : zI} {tk : Nat → List Nat} (h : iG m0 tk 32 mi) {g : Nat} (hg : g < 32) : mi 23 g = gPairs g := (h.2 g hg).1
/-- groups -/
theorem t_197 {K : Int32 → zI → zJ → Prop} {tk : Nat → List Nat} {mi : zI} (hi : iH mi) (hp : iP mi) (hT : iT mi tk) (h : ∀ mi1 mi2, iG mi tk 32 mi1 → mG mi1 mi2 → K (Int32.ofNat (gl (mGoes mi1) 32).length) mi2 ml) : TI (d + 6) 197 [.ref 0] zMS zMR mi ml K := by
  refine TI_of (B_197 (t_191 (d := d + 1) hi hp hT (fun mi1 h1 => t_198 (iH_s h1.s hi) (iP_s h1.s hp) (fun mi2 h2 hL => ?_))))
  rw [hL.1]
  exact h mi1 mi2 h1 h2
end MGROUP
