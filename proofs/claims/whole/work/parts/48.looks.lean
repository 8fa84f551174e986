-- @after: 00.privs 01.names 02.code 03.tabs 04.mach 05.rows 26.rows2 27.wp 28.mem 30.bc0 34.bm0 35.bm1 40.num 41.leaf 42.laws 43.known 44.post 45.holds 46.worth 47.barred
/-! The model: what can be in one boat. -/
def sPair (a b : Nat) : Nat := if b ≤ a then a * (a - 1) / 2 + b else b * (b - 1) / 2 + a
theorem n_pair : ∀ a : Nat, a < 5 → ∀ b : Nat, b < 5 → (Int32.ofNat a * (Int32.ofNat a - 1)) / 2 + Int32.ofNat b = Int32.ofNat (a * (a - 1) / 2 + b) := by decide +kernel
/-- the pair of a number -/
def pA (k : Nat) : Nat := [0, 0, 1, 0, 1, 2, 0, 1, 2, 3].getD k 0
def pB (k : Nat) : Nat := [1, 2, 2, 3, 3, 3, 4, 4, 4, 4].getD k 0
theorem pAB : ∀ b : Nat, b < 5 → ∀ a : Nat, a < b → pA (sTri b + a) = a ∧ pB (sTri b + a) = b ∧ sPair a b = sTri b + a ∧ sTri b + a < 10 := by decide +kernel
theorem sTri_suc : ∀ b : Nat, b < 5 → sTri b + b = sTri (b + 1) := by decide
abbrev mBars (mi : zI) (tk : Nat → List Nat) (k : Nat) : Prop := mBar mi tk (pA k) (pB k) = true
/-- the pairs that are barred, as bits -/
def mBarred (mi : zI) (tk : Nat → List Nat) : Int32 := sBits (mBars mi tk) (sTri (mPe mi))
section LOOKS
variable {d : Nat} {ml : zJ}
theorem t_158 {K : Int32 → zI → zJ → Prop} {mi : zI} {a b : Nat} (ha : a < 5) (hb : b < 5) (h : K (Int32.ofNat (sPair a b)) mi ml) : TI (d + 1) 158 [.int (Int32.ofNat a), .int (Int32.ofNat b)] zMS zMR mi ml K := by
  refine TI_of (B_158 _ _ ⟨fun e => ⟨by decide, ?_⟩, fun e => ⟨by decide, ?_⟩⟩)
  · have e := (n_le (by omega) (by omega)).mp e
    rw [n_pair a ha b hb]
    unfold sPair at h; rw [if_pos e] at h; exact h
  · have e : ¬ b ≤ a := fun q => e ((n_le (by omega) (by omega)).mpr q)
    rw [n_pair b hb a ha]
    unfold sPair at h; rw [if_neg e] at h; exact h
theorem mBar_as {mi mi' : zI} (h : mAs [21, 22] mi mi') {tk : Nat → List Nat} {a b : Nat} : mBar mi' tk a b = mBar mi tk a b := by
  unfold mBar; rw [mN_as h, sBar_as h]
/-- the pairs b, a .. (m of them are left of b) -/
theorem t_191_13 {Q : zQ} {tk : Nat → List Nat} {m0 : zI} {b : Nat} (hb : b < 5)
    (hQ : ∀ mi, mAs [21, 22] m0 mi → iH mi → iT mi tk → Wf (d + 3) 191 6 [.ref 0, .int (sBits (mBars m0 tk) (sTri (b + 1))), .int (Int32.ofNat (b + 1)), .retAddr 0, .retAddr 0] [] zMS zMR mi ml Q) :
    ∀ (m a : Nat) (mi : zI), a + m = b → mAs [21, 22] m0 mi → iH mi → iT mi tk → Wf (d + 3) 191 13 [.ref 0, .int (sBits (mBars m0 tk) (sTri b + a)), .int (Int32.ofNat b), .int (Int32.ofNat a), .retAddr 0] [] zMS zMR mi ml Q
  | 0, a, mi, e, hA, hi, hT => by
    obtain rfl : a = b := by omega
    refine B_191_13 _ _ _ ⟨fun _ => ?_, fun n => absurd (Int32.le_refl _) n⟩
    rw [n_suc, sTri_suc a hb]
    exact hQ mi hA hi hT
  | m + 1, a, mi, e, hA, hi, hT => by
    obtain ⟨p1, p2, p3, p4⟩ := pAB b hb a (by omega)
    refine B_191_13 _ _ _ ⟨fun n => absurd ((n_le (by omega) (by omega)).mp n) (by omega), fun _ => ?_⟩
    rw [n_suc]
    refine t_186 (tk := tk) (by omega) hb hi hT (fun mi' h' => ?_)
    rw [mBar_as hA]
    have ih := t_191_13 hb hQ m (a + 1) mi' (by omega) (hA.trans h') (iH_as h' hi) (iT_as h' hT)
    rw [← Nat.add_assoc, sBits] at ih
    have eb : mBars m0 tk (sTri b + a) ↔ mBar m0 tk a b = true := by unfold mBars; rw [p1, p2]
    refine ⟨fun n => ?_, fun n => t_158 (by omega) hb ?_⟩
    · rw [if_neg (fun q => by rw [eb.mp q] at n; exact absurd n (by decide))] at ih
      rw [Int32.or_zero]; exact ih
    · have hq : mBar m0 tk a b = true := by
        cases hh : mBar m0 tk a b with
        | true => rfl
        | false => exact absurd (by rw [hh]; rfl) n
      rw [if_pos (eb.mpr hq)] at ih
      rw [p3]; exact ih
theorem t_191_6 {Q : zQ} {tk : Nat → List Nat} {m0 : zI} (hp : iP m0)
    (hQ : ∀ mi, mAs [21, 22] m0 mi → iH mi → iT mi tk → Wf (d + 3) 191 39 [.ref 0, .int (mBarred m0 tk), .int 0, .retAddr 0, .retAddr 0] [] zMS zMR mi ml Q) :
    ∀ (m b : Nat) (mi : zI), b + m = max 1 (mPe m0) → mAs [21, 22] m0 mi → iH mi → iT mi tk → 1 ≤ b → Wf (d + 3) 191 6 [.ref 0, .int (sBits (mBars m0 tk) (sTri b)), .int (Int32.ofNat b), .retAddr 0, .retAddr 0] [] zMS zMR mi ml Q := by
  obtain ⟨q1, q2⟩ := iP_of hp
  intro m
  induction m with
  | zero =>
    intro b mi e hA hi hT h1
    have e0 : mi 0 0 = Int32.ofNat (mPe m0) := by rw [hA 0 0 (by decide)]; exact q1
    refine B_191_6 _ _ ?_
    rw [e0]
    refine ⟨fun _ => ?_, fun n => absurd ((n_le (by omega) (by omega)).mpr (by omega)) n⟩
    have ht : sTri b = sTri (mPe m0) := by
      by_cases h : 1 ≤ mPe m0
      · rw [show b = mPe m0 by omega]
      · rw [show b = 1 by omega, show mPe m0 = 0 by omega]; rfl
    rw [ht]
    exact hQ mi hA hi hT
  | succ m ih =>
    intro b mi e hA hi hT h1
    have e0 : mi 0 0 = Int32.ofNat (mPe m0) := by rw [hA 0 0 (by decide)]; exact q1
    refine B_191_6 _ _ ?_
    rw [e0]
    refine ⟨fun n => absurd ((n_le (by omega) (by omega)).mp n) (by omega), fun _ => ?_⟩
    exact t_191_13 (b := b) (by omega) (fun mi' hA' hi' hT' => ih (b + 1) mi' (by omega) hA' hi' hT' (by omega)) b 0 mi (by omega) hA hi hT
end LOOKS
