-- @after: 00.privs 01.names 02.code 03.tabs 04.mach 05.rows 26.rows2 27.wp 28.mem 30.bc0 34.bm0 35.bm1 36.bm2 40.num 41.leaf 42.laws 43.known 44.post 45.holds 46.worth 47.barred 48.looks 49.looks2 50.goes 51.mays 52.mgroup 53.mlong 54.mlong2
/-! The model: the table of the longest rows. -/
theorem n_pow : ∀ p : Nat, p < 11 → (1 : Int32) <<< (Int32.ofNat p &&& 31) = Int32.ofNat (2 ^ p) := by decide +kernel
/-- the groups that could go are of people that are there -/
def iC (mi : zI) : Prop := (∀ g, g < 32 → mi 23 g = gPairs g) ∧ ∀ g, g < 32 → ¬ mi 24 g = 0 → g < 2 ^ mPe mi
theorem gp_small : ∀ p : Nat, p < 6 → ∀ g : Nat, g < 32 → g < 2 ^ p → gpN g < 2 ^ sTri p := by decide +kernel
theorem lgOf_mA {m0 mi : zI} (h : mA 26 m0 mi) (f : Nat → Nat → Nat → Int32) (k w a : Nat) : ∀ n, lgOf mi f k w a n = lgOf m0 f k w a n
  | 0 => rfl
  | n + 1 => by
    have e : lCan mi k w a n ↔ lCan m0 k w a n := by unfold lCan mMay; rw [h 24 n (by decide), h 23 n (by decide)]
    rw [lgOf, lgOf, lgOf_mA h f k w a n]
    by_cases q : lCan m0 k w a n
    · rw [if_pos q, if_pos (e.mpr q)]
    · rw [if_neg q, if_neg (fun r => q (e.mp r))]
/-- the table is right for all that closes more than k, and for k's first places -/
def lRight (m0 mi : zI) (k n : Nat) : Prop := mA 26 m0 mi ∧ ∀ k' w a, k' < 2 ^ sTri (mPe m0) → w < 2 ^ mPe m0 → a < 2 → (k < k' ∨ k = k' ∧ w < n) → lTab mi k' w a = LG m0 k' w a
theorem lRight_of {m0 mi : zI} (hp : iP m0) (hC : iC m0) {k n w a : Nat} (hk : k < 2 ^ sTri (mPe m0)) (hw : w < 2 ^ mPe m0) (ha : a < 2) (h : lRight m0 mi k n) : lgOf mi (lTab mi) k w a 32 = LG m0 k w a := by
  obtain ⟨q1, q2⟩ := iP_of hp
  have ht := sTri_le _ q2
  have hk' : k < 1024 := Nat.lt_of_lt_of_le hk (show 2 ^ sTri (mPe m0) ≤ 2 ^ 10 from Nat.pow_le_pow_right (by decide) ht)
  rw [lgOf_mA h.1, LG_eq hC.1 hk']
  refine lgOf_congr 32 (fun g h32 hc => ?_)
  have hs := gp_small _ q2 g h32 (hC.2 g h32 hc.2.2.1)
  refine h.2 _ _ _ (Nat.or_lt_two_pow hk hs) (Nat.xor_lt_two_pow hw (hC.2 g h32 hc.2.2.1)) (by omega) (.inl (lCan_grows hC.1 hk' h32 hc).1)
section MLONG3
variable {d : Nat} {ml : zJ}
theorem lSt_inj {k w a k' w' a' : Nat} (hw : w < 32) (ha : a < 2) (hw' : w' < 32) (ha' : a' < 2) (h : lSt k w a = lSt k' w' a') : k = k' ∧ w = w' ∧ a = a' := by unfold lSt at h; omega
theorem t_202_19 {Q : zQ} {m0 : zI} {k : Nat} (hp : iP m0) (hC : iC m0) (hk : k < 2 ^ sTri (mPe m0))
    (hQ : ∀ mi, lRight m0 mi k (2 ^ mPe m0) → Wf (d + 4) 202 15 [.ref 0, .int (Int32.ofNat k + -1), .retAddr 0] [] zMS zMR mi ml Q) :
    ∀ (m w : Nat) (mi : zI), w + m = 2 ^ mPe m0 → lRight m0 mi k w → Wf (d + 4) 202 19 [.ref 0, .int (Int32.ofNat k), .int (Int32.ofNat w)] [] zMS zMR mi ml Q := by
  obtain ⟨q1, q2⟩ := iP_of hp
  have ht := sTri_le _ q2
  have hp5 : 2 ^ mPe m0 ≤ 2 ^ 5 := Nat.pow_le_pow_right (by decide) (by omega)
  have hk' : k < 1024 := Nat.lt_of_lt_of_le hk (show 2 ^ sTri (mPe m0) ≤ 2 ^ 10 from Nat.pow_le_pow_right (by decide) ht)
  have e5 : (2 : Nat) ^ 5 = 32 := by decide
  intro m
  induction m with
  | zero =>
    intro w mi e hR
    obtain rfl : w = 2 ^ mPe m0 := by omega
    refine B_202_19 _ _ ?_
    rw [hR.1 0 0 (by decide), q1, n_pow _ (by omega)]
    exact ⟨fun _ => hQ mi hR, fun n => absurd (Int32.le_refl _) n⟩
  | succ m ih =>
    intro w mi e hR
    have hw : w < 2 ^ mPe m0 := by omega
    have hg : ∀ g, g < 32 → mi 23 g = gPairs g := fun g hh => by rw [hR.1 23 g (by decide)]; exact hC.1 g hh
    have h0 : lSt k w 0 < 65536 := lSt_lt hk' (by omega) (by decide)
    have h1 : lSt k w 1 < 65536 := lSt_lt hk' (by omega) (by decide)
    have put : ∀ (mi : zI) (a : Nat) (v : Int32) (n : Nat), a < 2 → lRight m0 mi k n → n ≤ w → lRight m0 (zu mi 26 (lSt k w a) v) k n := by
      intro mi a v n ha h hn
      refine ⟨h.1.put, fun k' w' a' hk1 hw1 ha1 hh => ?_⟩
      unfold lTab
      rw [zu_nk (fun r => by
        obtain ⟨r1, r2, r3⟩ := lSt_inj (by omega) ha1 (by omega) ha r
        omega)]
      exact h.2 k' w' a' hk1 hw1 ha1 hh
    refine B_202_19 _ _ ?_
    rw [hR.1 0 0 (by decide), q1, n_pow _ (by omega)]
    refine ⟨fun n => absurd ((n_le (by omega) (by omega)).mp n) (by omega), fun _ => t_203 (a := 0) (t_204 (a := 0) hk' (by omega) (by decide) hg ⟨n_zin h0 (by omega), ?_⟩)⟩
    rw [lRight_of hp hC hk hw (by decide) hR, n_cl (by omega)]
    have hR1 := put mi 0 (LG m0 k w 0) w (by decide) hR (Nat.le_refl _)
    have hg1 : ∀ g, g < 32 → zu mi 26 (lSt k w 0) (LG m0 k w 0) 23 g = gPairs g := fun g hh => by rw [zu_nc (by decide)]; exact hg g hh
    refine t_203 (a := 1) (t_204 (a := 1) hk' (by omega) (by decide) hg1 ⟨n_zin h1 (by omega), ?_⟩)
    rw [lRight_of hp hC hk hw (by decide) hR1, n_cl (by omega), n_suc]
    have hR2 := put _ 1 (LG m0 k w 1) w (by decide) hR1 (Nat.le_refl _)
    refine ih (w + 1) _ (by omega) ⟨hR2.1, fun k' w' a' hk1 hw1 ha1 hh => ?_⟩
    by_cases hkw : k = k' ∧ w' = w
    · obtain ⟨rfl, rfl⟩ := hkw
      have : a' = 0 ∨ a' = 1 := by omega
      rcases this with rfl | rfl
      · unfold lTab; rw [zu_nk (fun r => by unfold lSt at r; omega), zu_eq]
      · unfold lTab; rw [zu_eq]
    · exact hR2.2 k' w' a' hk1 hw1 ha1 (by omega)
theorem t_202_15 {Q : zQ} {m0 : zI} (hp : iP m0) (hC : iC m0) (hQ : ∀ mi, mA 26 m0 mi → (∀ k w a, k < 2 ^ sTri (mPe m0) → w < 2 ^ mPe m0 → a < 2 → lTab mi k w a = LG m0 k w a) → Q none mi ml) :
    ∀ (n : Nat) (mi : zI), n ≤ 2 ^ sTri (mPe m0) → mA 26 m0 mi → (∀ k w a, n ≤ k → k < 2 ^ sTri (mPe m0) → w < 2 ^ mPe m0 → a < 2 → lTab mi k w a = LG m0 k w a) → Wf (d + 4) 202 15 [.ref 0, .int (Int32.ofNat n - 1), .retAddr 0] [] zMS zMR mi ml Q
  | 0, mi, hn, hA, h => B_202_15 _ ⟨fun _ => hQ mi hA (fun k w a => h k w a (Nat.zero_le _)), fun q => absurd (show Int32.ofNat 0 - 1 < 0 by decide) q⟩
  | n + 1, mi, hn, hA, h => by
    have ht := sTri_le _ (iP_of hp).2
    have h10 : 2 ^ sTri (mPe m0) ≤ 1024 := (show 2 ^ sTri (mPe m0) ≤ 2 ^ 10 from Nat.pow_le_pow_right (by decide) ht)
    rw [n_pred]
    refine B_202_15 _ ⟨fun q => absurd q (Int32.not_lt.mpr ((n_le (a := 0) (by omega) (by omega)).mpr (Nat.zero_le _))), fun _ => ?_⟩
    refine t_202_19 (k := n) hp hC (by omega) (fun mi' hR => ?_) (2 ^ mPe m0) 0 mi (by omega) ⟨hA, fun k' w a hk hw ha hh => h k' w a (by omega) hk hw ha⟩
    rw [← Int32.sub_eq_add_neg]
    exact t_202_15 hp hC hQ n mi' (by omega) hR.1 (fun k w a hk1 hk2 hw ha => hR.2 k w a hk2 hw ha (by omega))
/-- allLongs: the table holds the longest rows -/
theorem t_202 {K : zI → zJ → Prop} {mi : zI} (hp : iP mi) (hC : iC mi) (h : ∀ mi', mA 26 mi mi' → (∀ k w a, k < 2 ^ sTri (mPe mi) → w < 2 ^ mPe mi → a < 2 → lTab mi' k w a = LG mi k w a) → K mi' ml) : TV (d + 4) 202 [.ref 0] zMS zMR mi ml K := by
  obtain ⟨q1, q2⟩ := iP_of hp
  have ht := sTri_le _ q2
  refine TV_of (B_202 ?_)
  rw [q1, n_tri _ q2, n_pow _ (by omega)]
  exact ⟨by decide, t_202_15 (m0 := mi) hp hC h (2 ^ sTri (mPe mi)) mi (Nat.le_refl _) mA.rfl (fun k w a h1 h2 => absurd h1 (by omega))⟩
end MLONG3
