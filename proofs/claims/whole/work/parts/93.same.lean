/-! The class's longest rows are the model's. -/
def baN (cs : List pCl) : Nat := bN (fun k => cBarB cs k = true) 10
def hW (p w a : Nat) : Nat := if a = 0 then (2 ^ p - 1) ^^^ w else w
theorem sm_abs : ∀ p : Nat, p < 6 → ∀ g : Nat, g < 32 → 2 ≤ oN g → (gpN g &&& (1024 - 2 ^ sTri p) = 0 ↔ g < 2 ^ p) := by decide +kernel
theorem sm_sub : ∀ p : Nat, p < 6 → ∀ h : Nat, h < 32 → ∀ g : Nat, g < 32 → g < 2 ^ p → (gSub g h ↔ gSub g (h % 2 ^ p)) := by decide +kernel
theorem sm_th (p : Nat) (hp : p < 6) (w : Nat) (hw : w < 32) (g : Nat) (hg : g < 32) (a : Nat) (ha : a < 2) (h1 : w < 2 ^ p) (h2 : g < 2 ^ p) : gSub g (hW p w a) ↔ sThere (Int32.ofNat g) (Int32.ofNat w) (Int32.ofNat a) := by
  obtain ⟨s1, -, s3⟩ := sub_here hp hw h1 hg
  have : a = 0 ∨ a = 1 := by omega
  rcases this with rfl | rfl
  · show gSub g ((2 ^ p - 1) ^^^ w) ↔ Int32.ofNat g &&& Int32.ofNat w = 0
    rw [s1]
    exact ⟨fun q => q.2, fun q => ⟨h2, q⟩⟩
  · show gSub g w ↔ Int32.ofNat g &&& (Int32.ofNat w ^^^ -1) = 0
    exact s3
theorem sm_nx : ∀ p : Nat, p < 6 → ∀ h : Nat, h < 32 → ∀ g : Nat, g < 32 → g < 2 ^ p → gSub g (h % 2 ^ p) → cNx h g % 2 ^ p = ((2 ^ p - 1) ^^^ (h % 2 ^ p)) ^^^ g := by decide +kernel
theorem sm_nw (p : Nat) (w g a : Nat) (hp : p < 6) (hg : g < 32) (ha : a < 2) (h1 : w < 2 ^ p) (h2 : g < 2 ^ p) : ((2 ^ p - 1) ^^^ hW p w a) ^^^ g = hW p (w ^^^ g) (1 - a) ∧ w ^^^ g < 2 ^ p := by
  refine ⟨?_, Nat.xor_lt_two_pow h1 h2⟩
  have : a = 0 ∨ a = 1 := by omega
  rcases this with rfl | rfl
  · show ((2 ^ p - 1) ^^^ ((2 ^ p - 1) ^^^ w)) ^^^ g = w ^^^ g
    rw [← Nat.xor_assoc, Nat.xor_self, Nat.zero_xor]
  · show ((2 ^ p - 1) ^^^ w) ^^^ g = (2 ^ p - 1) ^^^ (w ^^^ g)
    rw [Nat.xor_assoc]
theorem sm_one : ∀ g : Nat, g < 32 → (¬ sOnes (Int32.ofNat g) 10 ≤ 1 ↔ 2 ≤ oN g) := by decide +kernel
theorem and_or0 (a b e : Nat) : a &&& (b ||| e) = 0 ↔ a &&& b = 0 ∧ a &&& e = 0 := by
  rw [and0_iff, and0_iff, and0_iff]
  constructor
  · intro h
    refine ⟨fun j hj => ?_, fun j hj => ?_⟩
    · have := h j hj
      rw [Nat.testBit_or, Bool.or_eq_false_iff] at this
      exact this.1
    · have := h j hj
      rw [Nat.testBit_or, Bool.or_eq_false_iff] at this
      exact this.2
  · rintro ⟨h, h'⟩ j hj
    rw [Nat.testBit_or, h j hj, h' j hj]; rfl
/-- which groups could go at all -/
theorem could_iff {m : zI} {cs : List pCl} (hp : iP m) (hH : iHold m cs) (hc : iCs cs) {g : Nat} (hg : g < 32) (h1 : 1 ≤ g) : mCould m (tkOf cs) g ↔ g < 2 ^ mPe m ∧ (cLaw 1 1 cs ≤ oN g ∧ oN g ≤ cLaw 0 2 cs) ∧ gpN g &&& baN cs = 0 := by
  obtain ⟨q1, q2⟩ := iP_of hp
  obtain ⟨o1, o2⟩ := oN_ok g hg
  have l1 : mLaw m 1 = Int32.ofNat (cLaw 1 1 cs) := hold_law hH hc (w := 1) (by decide)
  have l0 : mLaw m 0 = Int32.ofNat (cLaw 0 2 cs) := hold_law hH hc (w := 0) (by decide)
  have b1 := cLaw_lt (w := 1) cs 1 hc (by decide)
  have b0 := cLaw_lt (w := 0) cs 2 hc (by decide)
  have t10 := sTri_le _ q2
  have hcl : gpN g &&& baN cs = 0 ↔ ∀ k, (gpN g).testBit k = true → ¬ cBarB cs k = true := by
    rw [and0_iff]
    constructor
    · intro h k hk
      have := h k hk
      rw [baN, bN_bit, decide_eq_false_iff_not] at this
      exact fun q => this ⟨gp_10 hg hk, q⟩
    · intro h k hk
      rw [baN, bN_bit, decide_eq_false_iff_not]
      exact fun q => h k hk q.2
  unfold mCould mLeast
  rw [q1, n_sh2 _ q2 g hg, l1, l0, o1, n_le (show oN g < 2147483648 by omega) (show cLaw 0 2 cs < 2147483648 by omega), hcl]
  have hba : gPairs g &&& mBarred m (tkOf cs) = 0 ↔ ∀ k, k < sTri (mPe m) → (gpN g).testBit k = true → ¬ mBars m (tkOf cs) k := gp_and hg t10
  have hlea : (if Int32.ofNat (cLaw 1 1 cs) < 1 then (1 : Int32) else Int32.ofNat (cLaw 1 1 cs)) ≤ Int32.ofNat (oN g) ↔ cLaw 1 1 cs ≤ oN g := by
    have := oN_pos g hg h1
    by_cases e : cLaw 1 1 cs = 0
    · rw [if_pos (by rw [e]; decide)]
      have : (1 : Int32) ≤ Int32.ofNat (oN g) ↔ 1 ≤ oN g := n_le (a := 1) (by decide) (by omega)
      rw [this]; omega
    · rw [if_neg (fun q => e (by have := (n_lt (b := 1) (by omega) (by decide)).mp q; omega)), n_le (by omega) (by omega)]
  rw [hlea, hba]
  constructor
  · rintro ⟨h2, h3, h4⟩
    refine ⟨h2, h3, fun k hk q => ?_⟩
    exact h4 k (gp_tri _ q2 g hg k (gp_10 hg hk) h2 hk) hk ((hold_bar hH hc (gp_10 hg hk)).mpr q)
  · rintro ⟨h2, h3, h4⟩
    exact ⟨h2, h3, fun k _ hk q => h4 k hk ((hold_bar hH hc (gp_10 hg hk)).mp q)⟩
theorem can_iff {m : zI} {cs : List pCl} (hp : iP m) (hH : iHold m cs) (hc : iCs cs) {k w a h g : Nat} (hk : k < 1024) (hw : w < 2 ^ mPe m) (ha : a < 2) (hh : h < 32) (hh2 : h % 2 ^ mPe m = hW (mPe m) w a) (hg : g < 32) :
    cCan (loN (cLaw 1 1 cs)) (hiN (cLaw 0 2 cs)) (kTri (mPe m) (k ||| baN cs)) h g ↔ lCan (mLook m (tkOf cs)) k w a g := by
  obtain ⟨q1, q2⟩ := iP_of hp
  have pw := pow_tri _ hp
  obtain ⟨p1, p2⟩ := gpN_ok g hg
  have o5 := (oN_ok g hg).2
  have e23 : mLook m (tkOf cs) 23 g = gPairs g := if_pos ⟨rfl, hg⟩
  have e24 : mLook m (tkOf cs) 24 g = if mCould m (tkOf cs) g then 1 else 0 := by
    show (if _ then _ else if _ then _ else _) = _
    rw [if_neg (fun q => absurd q.1 (by decide)), if_pos ⟨rfl, hg⟩]
  have hcan : ¬ mLook m (tkOf cs) 24 g = 0 ↔ mCould m (tkOf cs) g := by
    rw [e24]
    by_cases q : mCould m (tkOf cs) g
    · rw [if_pos q]; exact ⟨fun _ => q, fun _ => by decide⟩
    · rw [if_neg q]; exact ⟨fun r => absurd rfl r, fun r => absurd r q⟩
  have hand : gPairs g &&& Int32.ofNat k = 0 ↔ gpN g &&& k = 0 := by
    rw [p1, n_and]
    exact n_eq (b := 0) (Nat.lt_of_le_of_lt Nat.and_le_right (by omega)) (by decide)
  unfold cCan lCan mMay
  rw [e23, hcan, hand, sm_one g hg, kTri, and_or0, and_or0]
  have lo : 2 ≤ oN g → (loN (cLaw 1 1 cs) ≤ oN g ↔ cLaw 1 1 cs ≤ oN g) := by
    intro h2
    unfold loN
    omega
  have lo2 : loN (cLaw 1 1 cs) ≤ oN g → 2 ≤ oN g := by
    unfold loN
    omega
  have hi : oN g ≤ hiN (cLaw 0 2 cs) ↔ oN g ≤ cLaw 0 2 cs := by
    unfold hiN
    omega
  constructor
  · rintro ⟨h3, h4, ⟨⟨h5, h6⟩, h7⟩, h8, h9⟩
    have h2 := lo2 h8
    have hgp := (sm_abs _ q2 g hg h2).mp h7
    have hs := (sm_sub _ q2 h hh g hg hgp).mp h4
    rw [hh2] at hs
    exact ⟨h3, h2, (could_iff hp hH hc hg (by omega)).mpr ⟨hgp, ⟨(lo h2).mp h8, hi.mp h9⟩, h6⟩, (sm_th _ q2 w (by omega) g hg a ha hw hgp).mp hs, h5⟩
  · rintro ⟨h3, h2, h4, h5, h6⟩
    obtain ⟨hgp, ⟨h8, h9⟩, h7⟩ := (could_iff hp hH hc hg (by omega)).mp h4
    have hs := (sm_th _ q2 w (by omega) g hg a ha hw hgp).mpr h5
    rw [← hh2] at hs
    exact ⟨h3, (sm_sub _ q2 h hh g hg hgp).mpr hs, ⟨⟨h6, h7⟩, (sm_abs _ q2 g hg h2).mpr hgp⟩, (lo h2).mpr h8, hi.mpr h9⟩
theorem or_mid (a b e f : Nat) : ((a ||| b) ||| e) ||| f = ((a ||| f) ||| b) ||| e := by
  apply Nat.eq_of_testBit_eq
  intro i
  simp only [Nat.testBit_or]
  cases a.testBit i <;> cases b.testBit i <;> cases e.testBit i <;> cases f.testBit i <;> rfl
theorem LC_LG {m : zI} {cs : List pCl} (hp : iP m) (hH : iHold m cs) (hc : iCs cs) : ∀ (n k w a h : Nat), 1024 - k ≤ n → k < 1024 → w < 2 ^ mPe m → a < 2 → h < 32 → h % 2 ^ mPe m = hW (mPe m) w a →
    LG (mLook m (tkOf cs)) k w a = Int32.ofNat (LC (loN (cLaw 1 1 cs)) (hiN (cLaw 0 2 cs)) (kTri (mPe m) (k ||| baN cs)) h)
  | 0, k, _, _, _, e, hk, _, _, _, _ => by omega
  | n + 1, k, w, a, h, e, hk, hw, ha, hh, hh2 => by
    obtain ⟨q1, q2⟩ := iP_of hp
    have pw := pow_tri _ hp
    have h23 : ∀ g, g < 32 → mLook m (tkOf cs) 23 g = gPairs g := fun g hg => if_pos ⟨rfl, hg⟩
    have h2 : 2 ≤ loN (cLaw 1 1 cs) := Nat.le_max_left _ _
    rw [LG_eq h23 hk, LC_eq h2]
    have main : ∀ g, g ≤ 32 → lgOf (mLook m (tkOf cs)) (LG (mLook m (tkOf cs))) k w a g = Int32.ofNat (lcOf (loN (cLaw 1 1 cs)) (hiN (cLaw 0 2 cs)) (LC (loN (cLaw 1 1 cs)) (hiN (cLaw 0 2 cs))) (kTri (mPe m) (k ||| baN cs)) h g) := by
      intro g
      induction g with
      | zero => intro _; rfl
      | succ g ih =>
        intro hg
        have ih := ih (by omega)
        have hi := can_iff hp hH hc hk hw ha hh hh2 (show g < 32 by omega)
        rw [lgOf, lcOf]
        by_cases q : cCan (loN (cLaw 1 1 cs)) (hiN (cLaw 0 2 cs)) (kTri (mPe m) (k ||| baN cs)) h g
        · have q' := hi.mp q
          rw [if_pos q, if_pos q']
          obtain ⟨gr, lt⟩ := lCan_grows h23 hk (show g < 32 by omega) q'
          have hgp : g < 2 ^ mPe m := (sm_abs _ q2 g (by omega) ((sm_one g (by omega)).mp q'.2.1)).mp ((and_or0 _ _ _).mp q.2.2.1).2
          have hs := (sm_sub _ q2 h hh g (by omega) hgp).mp q.2.1
          have nx := sm_nx _ q2 h hh g (by omega) hgp hs
          rw [hh2] at hs nx
          obtain ⟨nw, wl⟩ := sm_nw _ w g a q2 (by omega) ha hw hgp
          have := LC_LG hp hH hc n (k ||| gpN g) (w ^^^ g) (1 - a) (cNx h g) (by omega) lt wl (by omega) (m_here h hh g (by omega)).2 (by rw [nx, nw])
          have e4 : kTri (mPe m) (k ||| baN cs) ||| gpN g = kTri (mPe m) ((k ||| gpN g) ||| baN cs) := or_mid _ _ _ _
          rw [this, ih, e4]
          have b1 := LC_le (loN (cLaw 1 1 cs)) (hiN (cLaw 0 2 cs)) (kTri (mPe m) ((k ||| gpN g) ||| baN cs)) (cNx h g)
          have b2 : lcOf (loN (cLaw 1 1 cs)) (hiN (cLaw 0 2 cs)) (LC (loN (cLaw 1 1 cs)) (hiN (cLaw 0 2 cs))) (kTri (mPe m) (k ||| baN cs)) h g ≤ 12 := lcOf_le (n := 11) (fun a b => LC_le _ _ a b) g
          have e3 : (1 : Int32) + Int32.ofNat (LC (loN (cLaw 1 1 cs)) (hiN (cLaw 0 2 cs)) (kTri (mPe m) ((k ||| gpN g) ||| baN cs)) (cNx h g)) = Int32.ofNat (1 + LC (loN (cLaw 1 1 cs)) (hiN (cLaw 0 2 cs)) (kTri (mPe m) ((k ||| gpN g) ||| baN cs)) (cNx h g)) := n_add 1 _
          rw [e3]
          by_cases z : lcOf (loN (cLaw 1 1 cs)) (hiN (cLaw 0 2 cs)) (LC (loN (cLaw 1 1 cs)) (hiN (cLaw 0 2 cs))) (kTri (mPe m) (k ||| baN cs)) h g < 1 + LC (loN (cLaw 1 1 cs)) (hiN (cLaw 0 2 cs)) (kTri (mPe m) ((k ||| gpN g) ||| baN cs)) (cNx h g)
          · rw [if_pos z, if_neg (fun y => absurd ((n_le (by omega) (by omega)).mp y) (by omega))]
          · rw [if_neg z, if_pos ((n_le (by omega) (by omega)).mpr (by omega))]
        · rw [if_neg q, if_neg (fun z => q (hi.mpr z))]; exact ih
    exact main 32 (Nat.le_refl _)
