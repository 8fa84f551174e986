-- @after: 00.privs 01.names 02.code 03.tabs 04.mach 05.rows 26.rows2 27.wp 28.mem 30.bc0 34.bm0 35.bm1 36.bm2 40.num 41.leaf 42.laws 43.known 44.post 45.holds 46.worth 47.barred 48.looks 49.looks2 50.goes 51.mays
/-! The model: group, groups, cross. -/
section MGROUP
variable {d : Nat} {ml : zJ}
abbrev mIsG (mi : zI) (a : Int32) : Prop := 0 < a ∧ a < (1 : Int32) <<< (mi 0 0 &&& 31)
theorem t_190 {K : Int32 → zI → zJ → Prop} {mi : zI} {a : Int32} (h : K (if mIsG mi a then 1 else 0) mi ml) : TI (d + 1) 190 [.ref 0, .int a] zMS zMR mi ml K := by
  refine TI_of (B_190 _ ⟨fun e => ?_, fun e => ⟨fun e1 => ?_, fun e1 => ?_⟩⟩)
  · rw [if_neg (fun q => absurd e (Int32.not_le.mpr q.1))] at h; exact h
  · rw [if_neg (fun q => absurd e1 (Int32.not_le.mpr q.2))] at h; exact h
  · rw [if_pos ⟨Int32.not_le.mp e, Int32.not_le.mp e1⟩] at h; exact h
/-- a group of people that are there is a small number -/
theorem mIsG_nat {mi : zI} (hp : iP mi) {a : Int32} (h : mIsG mi a) : ∃ g : Nat, 1 ≤ g ∧ g < 2 ^ mPe mi ∧ g < 32 ∧ a = Int32.ofNat g := by
  obtain ⟨q1, q2⟩ := iP_of hp
  have hs : ∀ p : Nat, p < 6 → (1 : Int32) <<< (Int32.ofNat p &&& 31) = Int32.ofNat (2 ^ p) ∧ 2 ^ p ≤ 32 := by decide +kernel
  obtain ⟨s1, s2⟩ := hs _ q2
  obtain ⟨g, hg, rfl⟩ := n_nat (x := a) (Int32.not_lt.mpr (Int32.le_of_lt h.1))
  have h2 := h.2
  rw [q1, s1, n_lt hg (by omega)] at h2
  have h1 := (n_lt (a := 0) (by omega) hg).mp h.1
  exact ⟨g, by omega, h2, by omega, rfl⟩
theorem iG.s {m0 mi : zI} {tk : Nat → List Nat} {n : Nat} (h : iG m0 tk n mi) : mS m0 mi := h.1.s hi4
theorem iG.pair {m0 mi : zI} {tk : Nat → List Nat} (h : iG m0 tk 32 mi) {g : Nat} (hg : g < 32) : mi 23 g = gPairs g := (h.2 g hg).1
/-- groups -/
theorem t_197 {K : Int32 → zI → zJ → Prop} {tk : Nat → List Nat} {mi : zI} (hi : iH mi) (hp : iP mi) (hT : iT mi tk) (h : ∀ mi1 mi2, iG mi tk 32 mi1 → mG mi1 mi2 → K (Int32.ofNat (gl (mGoes mi1) 32).length) mi2 ml) : TI (d + 6) 197 [.ref 0] zMS zMR mi ml K := by
  refine TI_of (B_197 (t_191 (d := d + 1) hi hp hT (fun mi1 h1 => t_198 (iH_s h1.s hi) (iP_s h1.s hp) (fun mi2 h2 hL => ?_))))
  rw [hL.1]
  exact h mi1 mi2 h1 h2
theorem mWor_s {mi mi' : zI} (h : mS mi mi') {tk : Nat → List Nat} (g : Int32) : mWor mi' tk g = mWor mi tk g := by
  have e : mNm mi' g = mNm mi g := by unfold mNm; rw [h.1 2 (by decide), h.1 3 (by decide), h.1 4 (by decide)]
  have : ∀ k, sWor mi' tk (mNm mi g) k = sWor mi tk (mNm mi g) k := by
    intro k
    induction k with
    | zero => rfl
    | succ k ih => rw [sWor, sWor, ih, mP_s h, h.2 7 _ (by decide) (by decide), h.2 8 _ (by decide) (by decide)]
  unfold mWor; rw [mN_s h, e, this]
/-- cross -/
theorem t_199 {K : Int32 → zI → zJ → Prop} {tk : Nat → List Nat} {mi : zI} {a : Int32} (hi : iH mi) (hp : iP mi) (hT : iT mi tk)
    (h0 : ¬ mIsG mi a → K (-10002) mi ml)
    (h1 : ∀ g mi1, a = Int32.ofNat g → g < 32 → mIsG mi a → iG mi tk 32 mi1 → ¬ (mGoes mi1 g ∧ ¬ mi 0 4 = 9999) → K (-10003) mi1 ml)
    (h2 : ∀ g mi1 mi2, a = Int32.ofNat g → g < 32 → mIsG mi a → iG mi tk 32 mi1 → mGoes mi1 g → ¬ mi 0 4 = 9999 → mAs [21, 22] (mGo mi1 g) mi2 → K (mWor mi tk a) mi2 ml) : TI (d + 6) 199 [.ref 0, .int a] zMS zMR mi ml K := by
  refine TI_of (B_199 _ (t_190 ⟨fun n => ?_, fun n => ?_⟩))
  · have hg : mIsG mi a := Decidable.byContradiction fun q => n (by rw [if_neg q])
    obtain ⟨g, -, -, hg3, rfl⟩ := mIsG_nat hp hg
    refine t_191 (d := d + 1) hi hp hT (fun mi1 hG => ?_)
    have hs := hG.s
    refine t_194 (iH_s hs hi) (iP_s hs hp) hg3 ⟨fun e => ?_, fun e => ?_⟩
    · exact h1 g mi1 rfl hg3 hg hG (fun q => by rw [if_pos q.1] at e; exact absurd e (by decide))
    · have hm : mGoes mi1 g := Decidable.byContradiction fun q => e (by rw [if_neg q])
      have e4 : mi1 0 4 = mi 0 4 := hs.1 4 (by decide)
      rw [e4]
      refine ⟨fun e5 => t_200 (d := d + 2) (tk := tk) hg3 (iH_s hs hi) (iT_s hs hT) (hG.pair hg3) (fun mi2 h' => ?_), fun e5 => ?_⟩
      · rw [mWor_s hs]; exact h2 g mi1 mi2 rfl hg3 hg hG hm e5 h'
      · exact h1 g mi1 rfl hg3 hg hG (fun q => e5 q.2)
  · exact h0 (fun q => by rw [if_pos q] at n; exact n (by decide))
/-- group -/
theorem t_189 {K : Int32 → zI → zJ → Prop} {tk : Nat → List Nat} {mi : zI} {a b : Int32} (hi : iH mi) (hp : iP mi) (hT : iT mi tk)
    (h0 : ¬ (0 ≤ b ∧ b ≤ 1) → K (-10001) mi ml)
    (h1 : (0 ≤ b ∧ b ≤ 1) → ¬ mIsG mi a → K (-10002) mi ml)
    (h2 : ∀ g mi1, (0 ≤ b ∧ b ≤ 1) → ¬ b = 1 → a = Int32.ofNat g → g < 32 → mIsG mi a → iG mi tk 32 mi1 → K (if mGoes mi1 g then 1 else 0) mi1 ml)
    (h3 : ∀ g mi1 mi2, b = 1 → a = Int32.ofNat g → g < 32 → mIsG mi a → iG mi tk 32 mi1 → mAs [21, 22] mi1 mi2 → K (mWor mi tk a) mi2 ml) : TI (d + 6) 189 [.ref 0, .int a, .int b] zMS zMR mi ml K := by
  refine TI_of (B_189 _ _ (t_157 ⟨fun n => t_190 ⟨fun n1 => ?_, fun n1 => ?_⟩, fun n => ?_⟩))
  · have hb : 0 ≤ b ∧ b ≤ 1 := Decidable.byContradiction fun q => n (by rw [if_neg q])
    have hg : mIsG mi a := Decidable.byContradiction fun q => n1 (by rw [if_neg q])
    obtain ⟨g, -, -, hg3, rfl⟩ := mIsG_nat hp hg
    refine t_191 (d := d + 1) hi hp hT (fun mi1 hG => ?_)
    have hs := hG.s
    refine ⟨fun e => t_194 (iH_s hs hi) (iP_s hs hp) hg3 ⟨fun q => ?_, fun q => ?_⟩, fun e => t_193 (d := d + 3) (tk := tk) (iH_s hs hi) (iT_s hs hT) (fun mi2 h' => ?_)⟩
    · have hh := h2 g mi1 hb e rfl hg3 hg hG
      rw [if_neg (fun r => by rw [if_pos r] at q; exact absurd q (by decide))] at hh; exact hh
    · have hh := h2 g mi1 hb e rfl hg3 hg hG
      rw [if_pos (Decidable.byContradiction fun r => q (by rw [if_neg r]))] at hh; exact hh
    · rw [mWor_s hs]; exact h3 g mi1 mi2 (Decidable.not_not.mp e) rfl hg3 hg hG h'
  · have hb : 0 ≤ b ∧ b ≤ 1 := Decidable.byContradiction fun q => n (by rw [if_neg q])
    exact h1 hb (fun q => by rw [if_pos q] at n1; exact n1 (by decide))
  · exact h0 (fun q => by rw [if_pos q] at n; exact n (by decide))
end MGROUP
