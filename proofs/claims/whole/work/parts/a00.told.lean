/-! pick of a told plan; pick of any. -/
section TOLD
variable {d : Nat} {X : zS} {fr nx : Nat} {P : zR0} {c m : zI} {lc : zJ} {cs : List pCl}
theorem t_72 {K : Int32 → zI → zJ → Prop} {t b e p : Nat} {n : Nat} (hA : iA n m (tkOf cs)) (hn : n ≤ 100000) (hL : iL m (tkOf cs)) (hH : iHold m cs) (hc : iCs cs) (hb : iSc b) (he : iPc e) (hS : cSc b c m) (hPa : cPa e c cs) (hm : iMm c lc) (hp : p < 10)
    (hpl : cPlan X fr nx P t p c m) (hk : mKd m p = 5) (h : ∀ c' lc', iMm c' lc' → mM c lc c' lc' → K (aNone (mTk m p)) c' lc') : TI (d + 16) 72 [.ref t, .int (Int32.ofNat (bN (opP m cs) 32)), .ref b, .ref e, .ref 17] (zCS ++ X) (zCR fr nx P) c lc K := by
  have hA' := hA
  obtain ⟨a1, a2, a3, a4, a5, a6, a7⟩ := hA'
  obtain ⟨p1, p2, p3, p4, p5, p6, p7⟩ := hpl
  obtain ⟨r, r1, r2, r3, r4, r5⟩ := p7 hk
  have hz : zk (zCS ++ X) t = 10 := by rw [p2, hk]; rfl
  have hn6 : zn (zCS ++ X) t = 6 := by rw [p3, if_pos hk]
  obtain ⟨t30, t32⟩ := iPl_t hA hp
  have hT : c r (mCr m % 3) = Int32.ofNat (mTl m (3 * p + mCr m % 3)) := by
    rw [r5 _ (Nat.mod_lt _ (by decide))]; exact (a6.2.2 _ t30).1
  have hcr : c b 4 = Int32.ofNat (mCr m) := by rw [hS.2.2.2.2.1, a7.1]
  have hcr9 : mCr m ≤ 100000 := Nat.le_trans a7.2 hn
  have e3 : c b 4 % 3 = Int32.ofNat (mCr m % 3) := by rw [hcr]; exact n_mod (b := 3) (by omega) (by decide)
  have hzt : zand (zhas [10] (zk (zCS ++ X) t)) (Nat.blt 4 (zn (zCS ++ X) t)) = true := by rw [hz, hn6]; rfl
  have hm3 : mCr m % 3 < 3 := Nat.mod_lt _ (by decide)
  have hop := op_iff hA hL hH hc (g := mTl m (3 * p + mCr m % 3)) t32
  have kd5 : mTk m p = if gl (mGoes m) 32 = [] then 0 else if 1 ≤ mTl m (3 * p + mCr m % 3) ∧ mGoes m (mTl m (3 * p + mCr m % 3)) then mTl m (3 * p + mCr m % 3) else pk (mRank m 2) (gl (mGoes m) 32) := by
    unfold mTk
    rw [hk, if_neg (show ¬ (5 : Nat) = 1 by decide), if_neg (show ¬ (5 : Nat) = 2 by decide), if_neg (show ¬ (5 : Nat) = 3 by decide), if_neg (show ¬ (5 : Nat) = 4 by decide), if_pos rfl]
  have super : ¬ (1 ≤ mTl m (3 * p + mCr m % 3) ∧ mGoes m (mTl m (3 * p + mCr m % 3))) → ∃ j, ztg (zCS ++ X) 70 [.ref t, .int (Int32.ofNat (bN (opP m cs) 32)), .ref b, .ref e, .ref 17] = some j ∧ (zarg [.ref t, .int (Int32.ofNat (bN (opP m cs) 32)), .ref b, .ref e, .ref 17]).length ≤ (zM j).1 ∧ TI (d + 15) j [.ref t, .int (Int32.ofNat (bN (opP m cs) 32)), .ref b, .ref e, .ref 17] (zCS ++ X) (zCR fr nx P) c lc K := by
    intro q
    refine ⟨73, tg_sp (q := (99, 73)) (by rw [hz]; decide) rfl rfl, show 5 ≤ _ by decide, ?_⟩
    refine t_73s (d := d) (kd := 2) hA hL hH hc hb he hS hPa hm (.inr ⟨rfl, hz⟩) (.inr (.inr (.inl rfl))) (fun c' lc' u v => ?_)
    have := h c' lc' u v
    rw [kd5, if_neg q] at this
    rw [if_neg (by decide)]
    by_cases w : gl (mGoes m) 32 = []
    · rw [if_pos w] at this
      rw [w]; exact this
    · rw [if_neg w] at this; exact this
  refine TI_of (B_72 t _ b e hb he ⟨by decide, ?_⟩)
  rw [e3]
  refine ⟨fun x => absurd ((n_lt (b := 0) (by omega) (by decide)).mp x) (by omega), fun _ => ⟨hzt, by rw [r2]; omega, fun c7 e7 => ?_⟩⟩
  obtain rfl : c7 = r := by omega
  refine ⟨by rw [r3]; rfl, ?_⟩
  rw [r4]
  refine ⟨fun x => absurd ((n_le (by omega) (by omega)).mp x) (by omega), fun _ => ⟨hzt, by rw [r2]; omega, fun c14 e14 => ?_⟩⟩
  obtain rfl : c14 = c7 := by omega
  refine ⟨by rw [r3]; rfl, by rw [r4]; exact n_zin hm3 (by decide), ?_⟩
  rw [n_cl (by omega), hT]
  refine ⟨fun x => super (fun q => ?_), fun x => ⟨fun y => absurd ((n_le (a := 32) (by decide) (by omega)).mp y) (by omega), fun _ => ⟨fun z => super (fun q => ?_), fun z => ?_⟩⟩⟩
  · have := (n_le (b := 0) (by omega) (by decide)).mp x
    omega
  · rw [n_bit0 _ _ t32, bN_bit, decide_eq_false_iff_not] at z
    exact z ⟨t32, hop.mpr q⟩
  · rw [n_bit0 _ _ t32, bN_bit, decide_eq_false_iff_not] at z
    have ho := hop.mp (Decidable.not_not.mp z).2
    have ne : gl (mGoes m) 32 ≠ [] := fun w => by
      have := (gl_mem (mGoes m) (mTl m (3 * p + mCr m % 3)) 32).mpr ⟨t32, ho⟩
      rw [w] at this
      exact absurd this List.not_mem_nil
    have := h c lc hm (mM_rfl c lc)
    rw [kd5, if_neg ne, if_pos ho] at this
    unfold aNone at this
    rw [if_neg (by have := ho.1; omega)] at this
    exact this
/-- pick -/
theorem t_pick {K : Int32 → zI → zJ → Prop} {t b e p : Nat} {n : Nat} (hA : iA n m (tkOf cs)) (hn : n ≤ 100000) (hL : iL m (tkOf cs)) (hH : iHold m cs) (hc : iCs cs) (hb : iSc b) (he : iPc e) (hS : cSc b c m) (hPa : cPa e c cs) (hm : iMm c lc) (hp : p < 10)
    (hpl : cPlan X fr nx P t p c m) (h : ∀ c' lc', iMm c' lc' → mM c lc c' lc' → K (aNone (mTk m p)) c' lc') : ∃ j, ztg (zCS ++ X) 61 [.ref t, .int (Int32.ofNat (bN (opP m cs) 32)), .ref b, .ref e, .ref 17] = some j ∧ (zarg [.ref t, .int (Int32.ofNat (bN (opP m cs) 32)), .ref b, .ref e, .ref 17]).length ≤ (zM j).1 ∧ TI (d + 16) j [.ref t, .int (Int32.ofNat (bN (opP m cs) 32)), .ref b, .ref e, .ref 17] (zCS ++ X) (zCR fr nx P) c lc K := by
  have hpl' := hpl
  obtain ⟨p1, p2, p3, p4, p5, p6, p7⟩ := hpl'
  have k7 := (kd_val hA hp).1.2
  have sc : ∀ kd, mKd m p = kd → (kd = 0 ∨ kd = 1 ∨ kd = 2 ∨ kd = 4) → TI (d + 16) 73 [.ref t, .int (Int32.ofNat (bN (opP m cs) 32)), .ref b, .ref e, .ref 17] (zCS ++ X) (zCR fr nx P) c lc K := by
    intro kd ek hk
    refine t_73s (d := d + 1) (kd := kd) hA hL hH hc hb he hS hPa hm (.inl (by rw [p2, ek])) hk (fun c' lc' u v => ?_)
    have := h c' lc' u v
    unfold mTk at this
    rw [ek] at this
    by_cases w : gl (mGoes m) 32 = []
    · rw [if_pos w] at this
      rw [w]
      split
      · exact this
      · exact this
    · rw [if_neg w] at this
      rcases hk with rfl | rfl | rfl | rfl
      · exact this
      · exact this
      · exact this
      · exact this
  have hzz : ∀ kd, mKd m p = kd → zk (zCS ++ X) t = zKd kd := fun kd ek => by rw [p2, ek]
  have cases : mKd m p = 0 ∨ mKd m p = 1 ∨ mKd m p = 2 ∨ mKd m p = 3 ∨ mKd m p = 4 ∨ mKd m p = 5 ∨ mKd m p = 6 := by omega
  rcases cases with q | q | q | q | q | q | q
  · exact ⟨73, tg_vi (k := 5) (hzz _ q) (by decide) rfl rfl, show 5 ≤ _ by decide, sc _ q (.inl rfl)⟩
  · exact ⟨73, tg_vi (k := 1) (hzz _ q) (by decide) rfl rfl, show 5 ≤ _ by decide, sc _ q (.inr (.inl rfl))⟩
  · exact ⟨73, tg_vi (k := 3) (hzz _ q) (by decide) rfl rfl, show 5 ≤ _ by decide, sc _ q (.inr (.inr (.inl rfl)))⟩
  · exact ⟨69, tg_vi (k := 2) (hzz _ q) (by decide) rfl rfl, show 5 ≤ _ by decide, t_69s (d := d + 12) hA hn hL hH hc hb he hS hp hpl (.inl q) (h c lc hm (mM_rfl c lc))⟩
  · exact ⟨73, tg_vi (k := 0) (hzz _ q) (by decide) rfl rfl, show 5 ≤ _ by decide, sc _ q (.inr (.inr (.inr rfl)))⟩
  · exact ⟨72, tg_vi (k := 10) (hzz _ q) (by decide) rfl rfl, show 5 ≤ _ by decide, t_72 hA hn hL hH hc hb he hS hPa hm hp hpl q h⟩
  · exact ⟨69, tg_vi (k := 9) (hzz _ q) (by decide) rfl rfl, show 5 ≤ _ by decide, t_69s (d := d + 12) hA hn hL hH hc hb he hS hp hpl (.inr q) (h c lc hm (mM_rfl c lc))⟩
end TOLD
