/-! strangers: the two ways of counting agree. -/
theorem ok_iff {m : zI} {cs : List pCl} (hp : iP m) (hH : iHold m cs) (hc : iCs cs) {g : Nat} (hg : g < 32) (hg2 : g < 2 ^ mPe m) : gpN g &&& clN m cs = 0 ↔ cOK m (tkOf cs) g := by
  obtain ⟨q1, q2⟩ := iP_of hp
  have t10 := sTri_le _ q2
  have hgp : ∀ k, k < 10 → (gPair g k ↔ (gpN g).testBit k = true) := by
    have : ∀ g : Nat, g < 32 → ∀ k : Nat, k < 10 → (gPair g k ↔ (gpN g).testBit k = true) := by decide +kernel
    exact this g hg
  rw [and0_iff]
  constructor
  · intro h k hk hb
    have := h k ((hgp k (by omega)).mp hb.1)
    rw [clN, bN_bit, decide_eq_false_iff_not] at this
    exact this ⟨by omega, hb.2.elim .inl (fun q => .inr ((hold_bar hH hc (by omega)).mp q))⟩
  · intro h k hk
    have k10 := gp_10 hg hk
    have kt := gp_tri _ q2 g hg k k10 hg2 hk
    rw [clN, bN_bit, decide_eq_false_iff_not]
    intro q
    exact h k kt ⟨(hgp k k10).mpr hk, q.2.elim .inl (fun r => .inr ((hold_bar hH hc k10).mpr r))⟩
theorem sub_tr {a b e : Nat} (h : a &&& b = a) (h' : b &&& e = b) : a &&& e = a := by
  have : a &&& b &&& e = a &&& (b &&& e) := Nat.and_assoc a b e
  rw [h, h', h] at this
  exact this
theorem and_0_sub {a b e : Nat} (h : a &&& b = a) (h' : b &&& e = 0) : a &&& e = 0 := by
  have : a &&& b &&& e = a &&& (b &&& e) := Nat.and_assoc a b e
  rw [h, h', Nat.and_zero] at this
  exact this
theorem most_eq {m : zI} {cs : List pCl} (hp : iP m) (hb : iB m) (hw : iW m) (hH : iHold m cs) (hc : iCs cs) : cMost m (tkOf cs) (2 ^ mPe m) = min (oN (cBig m cs (hN m) 32)) (cLaw 0 2 cs) := by
  have pw := pow_tri _ hp
  have l0 : mLaw m 0 = Int32.ofNat (cLaw 0 2 cs) := hold_law hH hc (w := 0) (by decide)
  have b0 := cLaw_lt (w := 0) cs 2 hc (by decide)
  have up : cMost m (tkOf cs) (2 ^ mPe m) ≤ min (oN (cBig m cs (hN m) 32)) (cLaw 0 2 cs) := by
    rcases cMost_ok m (tkOf cs) (2 ^ mPe m) with h | ⟨x, x1, ⟨x2, x3, x4, x5⟩, x6⟩
    · rw [h]; exact Nat.zero_le _
    · have x32 : x < 32 := by omega
      have o5 := (oN_ok x x32).2
      rw [l0, n_le (by omega) (by omega)] at x3
      have := cBig_max m cs (hN m) 32 x x32 x2 ((hN_sub hp hb hw x32).mpr ⟨x1, x4⟩) ((ok_iff hp hH hc x32 x1).mpr x5)
      rw [← x6]
      exact Nat.le_min.mpr ⟨this, x3⟩
  have dn : min (oN (cBig m cs (hN m) 32)) (cLaw 0 2 cs) ≤ cMost m (tkOf cs) (2 ^ mPe m) := by
    by_cases z : min (oN (cBig m cs (hN m) 32)) (cLaw 0 2 cs) = 0
    · rw [z]; exact Nat.zero_le _
    · rcases cBig_ok m cs (hN m) 32 with h | ⟨B1, B2, B3, B4⟩
      · rw [h] at z
        exact absurd (show min (oN 0) (cLaw 0 2 cs) = 0 by rw [show oN 0 = 0 from by decide +kernel, Nat.zero_min]) z
      · have o5 := (oN_ok _ B1).2
        have m1 := Nat.min_le_left (oN (cBig m cs (hN m) 32)) (cLaw 0 2 cs)
        have m2 := Nat.min_le_right (oN (cBig m cs (hN m) 32)) (cLaw 0 2 cs)
        obtain ⟨x, x1, x2, x3, x4, x5⟩ := small_tab _ B1 (min (oN (cBig m cs (hN m) 32)) (cLaw 0 2 cs)) (by omega) (by omega) m1
        obtain ⟨y1, y2⟩ := (hN_sub hp hb hw x1).mp (sub_tr x3 B3)
        have := cMost_max m (tkOf cs) (2 ^ mPe m) x y1 ⟨x2, by rw [l0]; exact (n_le (by omega) (by omega)).mpr (by omega), y2, (ok_iff hp hH hc x1 y1).mp (and_0_sub x5 B4)⟩
        omega
  omega
