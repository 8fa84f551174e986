/-! The class's ways are the model's; home. -/
def baT (m : zI) (cs : List pCl) : Nat := baN cs &&& (2 ^ sTri (mPe m) - 1)
def iWt (m : zI) : Prop := m 0 2 = Int32.ofNat (mWn m) ∧ mWn m < 2 ^ mPe m
theorem mKn_bN2 {m : zI} (hp : iP m) : mKn m = bN (mKnows m) (sTri (mPe m)) := by
  obtain ⟨q1, q2⟩ := iP_of hp
  have t10 := sTri_le _ q2
  have := bN_lt (mKnows m) (sTri (mPe m))
  have le : 2 ^ sTri (mPe m) ≤ 2 ^ 10 := Nat.pow_le_pow_right (by decide) t10
  unfold mKn mKnown
  rw [sBits_bN _ _ (by omega), n_cl (by omega)]
theorem cl_st {m : zI} {cs : List pCl} (hp : iP m) : clN m cs &&& (2 ^ sTri (mPe m) - 1) = mKn m ||| baT m cs := by
  obtain ⟨q1, q2⟩ := iP_of hp
  have t10 := sTri_le _ q2
  apply Nat.eq_of_testBit_eq
  intro i
  rw [mKn_bN2 hp]
  unfold baT baN clN
  rw [Nat.testBit_and, Nat.testBit_or, Nat.testBit_and, bN_bit, bN_bit, bN_bit, Nat.testBit_two_pow_sub_one]
  by_cases h : i < sTri (mPe m)
  · have h10 : i < 10 := by omega
    by_cases a : mKnows m i <;> by_cases b : cBarB cs i = true <;> simp [h, h10, a, b]
  · by_cases a : mKnows m i <;> by_cases b : cBarB cs i = true <;> simp [h, a, b]
theorem lSt_d {k w a : Nat} (hw : w < 32) (ha : a < 2) : lSt k w a / 64 = k ∧ lSt k w a / 2 % 32 = w ∧ lSt k w a % 2 = a := by
  unfold lSt; omega
theorem gp_baT {m : zI} {cs : List pCl} (hp : iP m) {g : Nat} (hg : g < 32) (h2 : g < 2 ^ mPe m) : gpN g &&& baT m cs = 0 ↔ gpN g &&& baN cs = 0 := by
  obtain ⟨q1, q2⟩ := iP_of hp
  have : ∀ p : Nat, p < 6 → ∀ g : Nat, g < 32 → g < 2 ^ p → gpN g < 2 ^ sTri p := by decide +kernel
  have lt := this _ q2 g hg h2
  unfold baT
  rw [← Nat.and_assoc, Nat.and_two_pow_sub_one_eq_mod, Nat.mod_eq_of_lt (Nat.lt_of_le_of_lt Nat.and_le_left lt)]
theorem hMay_c {m : zI} {cs : List pCl} (hp : iP m) (hH : iHold m cs) (hc : iCs cs) {u g : Nat} (hu : u < 65536) (hg : 1 ≤ g ∧ g < 32) : hMay (mLook m (tkOf cs)) u g ↔ cG (mPe m) cs g ∧ gpN g &&& (u / 64 ||| baT m cs) = 0 ∧ sdP (1 - u % 2) g (u / 2 % 32) := by
  obtain ⟨p1, p2⟩ := gpN_ok g hg.2
  have e23 : mLook m (tkOf cs) 23 g = gPairs g := if_pos ⟨rfl, hg.2⟩
  have e24 : mLook m (tkOf cs) 24 g = if mCould m (tkOf cs) g then 1 else 0 := by
    show (if _ then _ else if _ then _ else _) = _
    rw [if_neg (fun q => absurd q.1 (by decide)), if_pos ⟨rfl, hg.2⟩]
  have hcan : ¬ mLook m (tkOf cs) 24 g = 0 ↔ mCould m (tkOf cs) g := by
    rw [e24]
    by_cases q : mCould m (tkOf cs) g
    · rw [if_pos q]; exact ⟨fun _ => q, fun _ => by decide⟩
    · rw [if_neg q]; exact ⟨fun r => absurd rfl r, fun r => absurd r q⟩
  have hand : gPairs g &&& Int32.ofNat (u / 64) = 0 ↔ gpN g &&& (u / 64) = 0 := by
    rw [p1, n_and]
    exact n_eq (b := 0) (Nat.lt_of_le_of_lt Nat.and_le_left (by omega)) (by decide)
  have hcd := could_iff hp hH hc hg.2 hg.1
  have hth := sdP_th g hg.2 (u / 2 % 32) (by omega) (u % 2) (by omega)
  unfold hMay mMay
  rw [e23, hcan, hand, hcd, hth, and_or0]
  constructor
  · rintro ⟨⟨h1, h2, h3⟩, h4, h5⟩
    exact ⟨⟨hg.1, h1, h2⟩, ⟨h5, (gp_baT hp hg.2 h1).mpr h3⟩, h4⟩
  · rintro ⟨⟨-, h1, h2⟩, ⟨h5, h3⟩, h4⟩
    exact ⟨⟨h1, h2, (gp_baT hp hg.2 h1).mp h3⟩, h4, h5⟩
section BRIDGE
variable {m : zI} {cs : List pCl} {n0 : Nat}
theorem br_1 (hA : iA n0 m (tkOf cs)) (hH : iHold m cs) (hc : iCs cs) : ∀ n f t, hQ (mLook m (tkOf cs)) (aNow m) n f t → cQ (cG (mPe m) cs) (clN m cs &&& (2 ^ sTri (mPe m) - 1)) (mW m) (mBo m) n f (t / 64 ||| baT m cs) (t / 2 % 32) ∧ t % 2 = (mBo m + n) % 2
  | 0, f, t, h => by
    obtain ⟨rfl, rfl⟩ := h
    obtain ⟨b1, b2⟩ := mBo_of hA.2.2.2.1
    have pw := pow_tri _ hA.2.1
    obtain ⟨e1, e2, e3⟩ := lSt_d (k := mKn m) (w := mW m) (a := mBo m) (by have := hA.2.2.2.2.1.2; omega) b2
    unfold aNow
    rw [e1, e2, e3]
    exact ⟨⟨rfl, (cl_st hA.2.1).symm, rfl⟩, by omega⟩
  | n + 1, f, t, h => by
    obtain ⟨u, g, f', h1, h2, h3, rfl, rfl⟩ := h
    obtain ⟨c1, c2⟩ := br_1 hA hH hc n f' u h1
    have hu := (hQ_lt (aNow_lt hA) n f' u h1).1
    obtain ⟨k1, k2, k3⟩ := (hMay_c hA.2.1 hH hc hu h2).mp h3
    obtain ⟨e1, e2, e3⟩ := lSt_d (k := u / 64 ||| gpN g) (w := u / 2 % 32 ^^^ g) (a := 1 - u % 2) (xor_32 (by omega) h2.2) (by omega)
    unfold hTo
    rw [e1, e2, e3]
    refine ⟨⟨u / 64 ||| baT m cs, u / 2 % 32, g, f', c1, k1, k2, by rw [← c2]; exact k3, ?_, rfl, rfl⟩, by omega⟩
    rw [Nat.or_assoc, Nat.or_comm (gpN g), ← Nat.or_assoc]
theorem br_2 (hA : iA n0 m (tkOf cs)) (hH : iHold m cs) (hc : iCs cs) : ∀ n f K w, cQ (cG (mPe m) cs) (clN m cs &&& (2 ^ sTri (mPe m) - 1)) (mW m) (mBo m) n f K w → ∃ t, hQ (mLook m (tkOf cs)) (aNow m) n f t ∧ t / 64 ||| baT m cs = K ∧ t / 2 % 32 = w ∧ t % 2 = (mBo m + n) % 2
  | 0, f, K, w, h => by
    obtain ⟨rfl, rfl, rfl⟩ := h
    obtain ⟨b1, b2⟩ := mBo_of hA.2.2.2.1
    have pw := pow_tri _ hA.2.1
    obtain ⟨e1, e2, e3⟩ := lSt_d (k := mKn m) (w := mW m) (a := mBo m) (by have := hA.2.2.2.2.1.2; omega) b2
    refine ⟨aNow m, ⟨rfl, rfl⟩, ?_⟩
    unfold aNow
    rw [e1, e2, e3]
    exact ⟨(cl_st hA.2.1).symm, rfl, by omega⟩
  | n + 1, f, K, w, h => by
    obtain ⟨K', w', g, f', h1, h2, h3, h4, rfl, rfl, rfl⟩ := h
    obtain ⟨u, c1, rfl, rfl, c4⟩ := br_2 hA hH hc n f' K' w' h1
    have hu := (hQ_lt (aNow_lt hA) n f' u c1).1
    have pw := pow_tri _ hA.2.1
    have hg : 1 ≤ g ∧ g < 32 := ⟨h2.1, by have := h2.2.1; omega⟩
    have k := (hMay_c hA.2.1 hH hc hu hg).mpr ⟨h2, h3, by rw [c4]; exact h4⟩
    obtain ⟨e1, e2, e3⟩ := lSt_d (k := u / 64 ||| gpN g) (w := u / 2 % 32 ^^^ g) (a := 1 - u % 2) (xor_32 (by omega) hg.2) (by omega)
    refine ⟨hTo u g, ⟨u, g, f', c1, hg, k, rfl, rfl⟩, ?_⟩
    unfold hTo
    rw [e1, e2, e3]
    refine ⟨?_, rfl, by omega⟩
    rw [Nat.or_assoc, Nat.or_comm (gpN g), ← Nat.or_assoc]
theorem br_home (hA : iA n0 m (tkOf cs)) (hH : iHold m cs) (hc : iCs cs) {W : Nat} {n f : Int32} (h : cHm (cG (mPe m) cs) (clN m cs &&& (2 ^ sTri (mPe m) - 1)) (mW m) (mBo m) W n f) : hIs (mLook m (tkOf cs)) (aNow m) W n f := by
  rcases h with ⟨e1, e2, h⟩ | ⟨N, F, h1, e1, e2, ⟨K, h2⟩, h3⟩
  · refine .inl ⟨e1, e2, fun N F t hN hq e => ?_⟩
    obtain ⟨c1, c2⟩ := br_1 hA hH hc N F t hq
    rw [e] at c1
    exact h N _ hN ⟨F, c1⟩
  · refine .inr ⟨N, F, h1, e1, e2, ?_, fun N' F' t hq e => ?_⟩
    · obtain ⟨t, t1, t2, t3, t4⟩ := br_2 hA hH hc N F K W h2
      exact ⟨t, t1, t3⟩
    · obtain ⟨c1, c2⟩ := br_1 hA hH hc N' F' t hq
      rw [e] at c1
      exact h3 N' F' _ c1
/-- home -/
theorem t_96 {d : Nat} {X : zS} {fr nx : Nat} {P : zR0} {lc : zJ} {Q : zQB} {c : zI} {a : Int32} (hf : iFN fr nx) (hA : iA n0 m (tkOf cs)) (hR : cRu c m cs) (hS : cSc 1 c m) (hWt : iWt m)
    (h0 : ¬ (0 ≤ a ∧ a ≤ 1) → Q (some (.int (-1))) (zCR fr nx P) c lc)
    (h : (0 ≤ a ∧ a ≤ 1) → ∀ fr nx c' v f, iFN fr nx → fSr c c' → hIs (mLook m (tkOf cs)) (aNow m) (mWn m) v f → Q (some (.int (if a = 0 then v else f))) (zCR fr nx P) c' lc) :
    Tb (d + 6) 96 [.ref 0, .int a] (zCS ++ X) (zCR fr nx P) c lc Q := by
  have pw := pow_tri _ hA.2.1
  obtain ⟨w1, w2⟩ := hWt
  have hi := (ruC_of hR.2.1).1
  refine B_96 a hf ⟨fun x => h0 (fun z => absurd x (Int32.not_lt.mpr z.1)), fun x => ⟨fun y => t_65 (d := d + 3) (.inl rfl) hR hS (t_11 (d := d + 4) hR ⟨by omega, fun c3 e3 => ?_⟩), fun y => h0 (fun z => y z.2)⟩⟩
  obtain rfl : c3 = ruC m := by omega
  have tgt : ztg (zCS ++ X) 96 [.ref 17, .ref 1, .int (Int32.ofNat (clN m cs)), .ref (ruC m)] = some 97 := rfl
  refine wb_call (v := 96) (j1 := 97) (n := 4) (args := [.ref 17, .ref 1, .int (Int32.ofNat (clN m cs)), .ref (ruC m)]) (rest := []) (I := .invokevirtual 96) rfl rfl rfl rfl rfl rfl (Nat.le_refl 4) rfl rfl tgt (by decide) (show 4 ≤ 8 by decide) ?_
  refine t_97 (d := d) hf hi hS hA.2.1 hA.2.2.2.1 hA.2.2.2.2.1 hR.2.2.2 hR.2.2.1 (clN_lt m cs) (by omega) w1 (fun fr nx c' n f hf' hs e9 e10 hcm => ?_)
  have hh := h ⟨Int32.not_lt.mp x, y⟩ fr nx c' n f hf' hs (br_home hA hR.2.1 hR.2.2.1 hcm)
  refine B_96_18 a hf' ⟨fun z => ?_, fun z => ?_⟩
  · rw [if_neg z] at hh
    rw [e10]; exact hh
  · rw [if_pos (Decidable.not_not.mp z)] at hh
    rw [e9]; exact hh
end BRIDGE
