-- @after: 00.privs 01.names 02.code 03.tabs 04.mach 05.rows 26.rows2 27.wp 28.mem 30.bc0 34.bm0 35.bm1 36.bm2 40.num 41.leaf 42.laws 43.known 44.post 45.holds 46.worth 47.barred 48.looks 49.looks2 50.goes 51.mays 52.mgroup 53.mlong 54.mlong2
/-! The model: the table of the longest rows. -/
theorem n_pow : ∀ p : Nat, p < 11 → (1 : Int32) <<< (Int32.ofNat p &&& 31) = Int32.ofNat (2 ^ p) := by decide +kernel
/-- the groups that could go are of people that are there -/
def iC (mi : zI) : Prop := (∀ g, g < 32 → mi 23 g = gPairs g) ∧ ∀ g, g < 32 → ¬ mi 24 g = 0 → g < 2 ^ mPe mi
theorem gp_small : ∀ p : Nat, p < 6 → ∀ g : Nat, g < 32 → g < 2 ^ p → gpN g < 2 ^ sTri p := by decide +kernel
theorem lgOf_mA {m0 mi : zI} (h : mA 26 m0 mi) (f : Nat → Nat → Nat → Int32) (k w a : Nat) : ∀ n, lgOf mi f k w a n = lgOf m0 f k w a n
  | 0 => rfl
  | n + 1 => by
    have e : lCan mi k w a n ↔ lCan m0 k w a n := by unfold lCan mMay; rw [h 24 n (by decide), h 23 n (by decide)]
    rw [lgOf, lgOf, lgOf_mA h f k w a n]
    by_cases q : lCan m0 k w a n
    · rw [if_pos q, if_pos (e.mpr q)]
    · rw [if_neg q, if_neg (fun r => q (e.mp r))]
/-- the table is right for all that closes more than k, and for k's first places -/
def lRight (m0 mi : zI) (k n : Nat) : Prop := mA 26 m0 mi ∧ ∀ k' w a, k' < 2 ^ sTri (mPe m0) → w < 2 ^ mPe m0 → a < 2 → (k < k' ∨ k = k' ∧ w < n) → lTab mi k' w a = LG m0 k' w a
theorem lRight_of {m0 mi : zI} (hp : iP m0) (hC : iC m0) {k n w a : Nat} (hk : k < 2 ^ sTri (mPe m0)) (hw : w < 2 ^ mPe m0) (ha : a < 2) (h : lRight m0 mi k n) : lgOf mi (lTab mi) k w a 32 = LG m0 k w a := by
  obtain ⟨q1, q2⟩ := iP_of hp
  have ht := sTri_le _ q2
  have hk' : k < 1024 := Nat.lt_of_lt_of_le hk (show 2 ^ sTri (mPe m0) ≤ 2 ^ 10 from Nat.pow_le_pow_right (by decide) ht)
  rw [lgOf_mA h.1, LG_eq hC.1 hk']
  refine lgOf_congr 32 (fun g h32 hc => ?_)
  have hs := gp_small _ q2 g h32 (hC.2 g h32 hc.2.2.1)
  refine h.2 _ _ _ (Nat.or_lt_two_pow hk hs) (Nat.xor_lt_two_pow hw (hC.2 g h32 hc.2.2.1)) (by omega) (.inl (lCan_grows hC.1 hk' h32 hc).1)
