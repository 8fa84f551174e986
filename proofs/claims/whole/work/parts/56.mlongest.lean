-- @after: 00.privs 01.names 02.code 03.tabs 04.mach 05.rows 26.rows2 27.wp 28.mem 30.bc0 34.bm0 35.bm1 36.bm2 40.num 41.leaf 42.laws 43.known 44.post 45.holds 46.worth 47.barred 48.looks 49.looks2 50.goes 51.mays 52.mgroup 53.mlong 54.mlong2 55.mlong3
/-! The model: longest, price. -/
theorem sBits_nat (f : Nat → Prop) [DecidablePred f] : ∀ n : Nat, n ≤ 10 → ∃ k : Nat, k < 2 ^ n ∧ sBits f n = Int32.ofNat k
  | 0, _ => ⟨0, by decide, rfl⟩
  | n + 1, h => by
    obtain ⟨k, h1, h2⟩ := sBits_nat f n (by omega)
    have hp : 2 ^ (n + 1) = 2 ^ n + 2 ^ n := by rw [Nat.pow_succ]; omega
    rw [sBits, h2]
    split
    · refine ⟨k ||| 2 ^ n, Nat.or_lt_two_pow (by omega) (by omega), ?_⟩
      unfold sBit
      rw [n_pow n (by omega), n_or]
    · exact ⟨k, by omega, rfl⟩
/-- a number of the known pairs -/
theorem mKnown_nat {mi : zI} (hp : iP mi) : ∃ k : Nat, k < 2 ^ sTri (mPe mi) ∧ mKnown mi = Int32.ofNat k := sBits_nat _ _ (sTri_le _ (iP_of hp).2)
theorem n_sh : ∀ p : Nat, p < 6 → ∀ g : Nat, g < 32 → Int32.ofNat g >>> (Int32.ofNat p &&& 31) = 0 → g < 2 ^ p := by decide +kernel
theorem iC_of {m0 mi : zI} {tk : Nat → List Nat} (hp : iP m0) (h : iG m0 tk 32 mi) : iC mi := by
  obtain ⟨q1, q2⟩ := iP_of hp
  refine ⟨fun g hg => (h.2 g hg).1, fun g hg hn => ?_⟩
  rw [(h.2 g hg).2] at hn
  have hc : mCould m0 tk g := Decidable.byContradiction fun q => hn (by rw [if_neg q])
  have := hc.1
  rw [q1] at this
  rw [mPe_hi hi4 h.1]
  exact n_sh _ q2 g hg this
theorem n_small (n : Nat) (hn : n < 2147483648) (x : Int32) : ∃ w : Nat, w ≤ n ∧ x &&& Int32.ofNat n = Int32.ofNat w := by
  refine ⟨(x.toBitVec &&& BitVec.ofNat 32 n).toNat, ?_, ?_⟩
  · rw [BitVec.toNat_and, BitVec.toNat_ofNat, Nat.mod_eq_of_lt (by omega)]
    exact Nat.and_le_right
  · apply Int32.toBitVec_inj.mp
    simp [Int32.toBitVec_and]
    rw [Nat.mod_eq_of_lt (by omega)]
def mKn (mi : zI) : Nat := (mKnown mi).toNatClampNeg
def mWh (mi : zI) : Nat := (mi 0 1 &&& (Int32.ofNat (2 ^ mPe mi) - 1)).toNatClampNeg
def mBo (mi : zI) : Nat := (mi 0 3).toNatClampNeg
def iB (mi : zI) : Prop := mi 0 3 = 0 ∨ mi 0 3 = 1
theorem mKn_of {mi : zI} (hp : iP mi) : mKnown mi = Int32.ofNat (mKn mi) ∧ mKn mi < 2 ^ sTri (mPe mi) := by
  obtain ⟨k, h1, h2⟩ := mKnown_nat hp
  have ht := sTri_le _ (iP_of hp).2
  have h10 : 2 ^ sTri (mPe mi) ≤ 1024 := (show 2 ^ sTri (mPe mi) ≤ 2 ^ 10 from Nat.pow_le_pow_right (by decide) ht)
  have e : mKn mi = k := by unfold mKn; rw [h2, n_cl (by omega)]
  rw [e]; exact ⟨h2, h1⟩
theorem n_msk : ∀ p : Nat, p < 6 → Int32.ofNat (2 ^ p) - 1 = Int32.ofNat (2 ^ p - 1) ∧ 1 ≤ 2 ^ p ∧ 2 ^ p ≤ 32 := by decide +kernel
theorem mWh_of {mi : zI} (hp : iP mi) : mi 0 1 &&& (((1 : Int32) <<< (mi 0 0 &&& 31)) - 1) = Int32.ofNat (mWh mi) ∧ mWh mi < 2 ^ mPe mi := by
  obtain ⟨q1, q2⟩ := iP_of hp
  obtain ⟨m1, m2, m3⟩ := n_msk _ q2
  obtain ⟨w, h1, h2⟩ := n_small (2 ^ mPe mi - 1) (by omega) (mi 0 1)
  have e : mWh mi = w := by unfold mWh; rw [m1, h2, n_cl (by omega)]
  rw [q1, n_pow _ (by omega), m1, h2, e]
  exact ⟨rfl, by omega⟩
theorem mBo_of {mi : zI} (h : iB mi) : mi 0 3 = Int32.ofNat (mBo mi) ∧ mBo mi < 2 := by
  unfold mBo
  rcases h with h | h <;> rw [h] <;> decide
section MLONGEST
variable {d : Nat} {ml : zJ}
theorem t_205 {K : Int32 → zI → zJ → Prop} {mi : zI} (hi : iH mi) (hp : iP mi) (hb : iB mi) (h : K (lTab mi (mKn mi) (mWh mi) (mBo mi)) mi ml) : TI (d + 5) 205 [.ref 0] zMS zMR mi ml K := by
  obtain ⟨k1, k2⟩ := mKn_of hp
  obtain ⟨w1, w2⟩ := mWh_of hp
  obtain ⟨b1, b2⟩ := mBo_of hb
  have ht := sTri_le _ (iP_of hp).2
  have h10 : 2 ^ sTri (mPe mi) ≤ 1024 := (show 2 ^ sTri (mPe mi) ≤ 2 ^ 10 from Nat.pow_le_pow_right (by decide) ht)
  have h32 := (n_msk _ (iP_of hp).2).2.2
  have hs := lSt_lt (k := mKn mi) (w := mWh mi) (a := mBo mi) (by omega) (by omega) b2
  refine TI_of (B_205 (t_183 hi hp ?_))
  rw [k1, w1, b1]
  refine t_203 ⟨n_zin hs (by omega), ?_⟩
  rw [n_cl (by omega)]
  exact h
end MLONGEST
