/-! longest, price. -/
theorem tri_bit : ∀ t : Nat, t ≤ 10 → ∀ i : Nat, i < 11 → (1024 - 2 ^ t).testBit i = (decide (t ≤ i) && decide (i < 10)) := by decide +kernel
theorem tri_big (t i : Nat) (ht : t ≤ 10) (hi : 10 ≤ i) : (1024 - 2 ^ t).testBit i = false := by
  have : 0 < 2 ^ t := Nat.pow_pos (by decide)
  exact Nat.testBit_lt_two_pow (Nat.lt_of_lt_of_le (show 1024 - 2 ^ t < 1024 by omega) (show 1024 ≤ 2 ^ i from Nat.pow_le_pow_right (n := 2) (i := 10) (by decide) hi))
theorem kTri_or (p a b : Nat) : kTri p (a ||| b) = kTri p a ||| b := by
  unfold kTri
  rw [Nat.or_assoc, Nat.or_assoc, Nat.or_comm b]
theorem mKn_bN {m : zI} (hp : iP m) : mKn m = bN (mKnows m) (sTri (mPe m)) := by
  have t10 := sTri_le _ (iP_of hp).2
  have l := bN_lt (mKnows m) (sTri (mPe m))
  have : 2 ^ sTri (mPe m) ≤ 1024 := (pow_tri m hp).1
  unfold mKn mKnown
  rw [sBits_bN _ _ (by omega), n_cl (by omega)]
theorem kTri_cl {m : zI} (hp : iP m) (cs : List pCl) : kTri (mPe m) (clN m cs) = kTri (mPe m) (mKn m ||| baN cs) := by
  have t10 := sTri_le _ (iP_of hp).2
  rw [mKn_bN hp]
  apply Nat.eq_of_testBit_eq
  intro i
  unfold kTri clN baN
  rw [Nat.testBit_or, Nat.testBit_or, Nat.testBit_or, bN_bit, bN_bit, bN_bit]
  by_cases h : i < 10
  · rw [tri_bit _ t10 i (by omega)]
    by_cases h2 : i < sTri (mPe m)
    · have : ¬ sTri (mPe m) ≤ i := by omega
      by_cases q : mKnows m i <;> simp [h, h2, this, q]
    · have : sTri (mPe m) ≤ i := by omega
      simp [h, this]
  · rw [tri_big _ i t10 (by omega)]
    have : ¬ i < sTri (mPe m) := by omega
    simp [h, this]
theorem hN_hW (m : zI) : hN m = hW (mPe m) (mW m) (mBo m) := rfl
theorem cSc_M {t : Nat} {c c' m : zI} {lc lc' : zJ} (ht : iSc t) (h : mM c lc c' lc') (q : cSc t c m) : cSc t c' m := cSc_eq (fun k _ => h.1 _ _ (fun z => by omega)) (fun k _ => h.1 _ _ (fun z => by omega)) q
theorem cRu_M {c c' m : zI} {lc lc' : zJ} {cs : List pCl} (h : mM c lc c' lc') (q : cRu c m cs) : cRu c' m cs := by
  obtain ⟨q1, q2, q3, q4⟩ := q
  have hi := (ruC_of q2).1
  refine ⟨by rw [h.1 1 6 (fun z => absurd z.1 (by decide))]; exact q1, q2, q3, cPa_eq (fun k => h.1 _ _ (fun z => ?_)) (fun k => h.1 _ _ (fun z => ?_)) (fun k => h.1 _ _ (fun z => ?_)) (fun k => h.1 _ _ (fun z => ?_)) q4⟩
  all_goals
    revert z
    generalize ruC m = r at hi
    omega
theorem pr_tab : ∀ a : Nat, a < 5 → ∀ b : Nat, b < 5 → (((if Int32.ofNat a < Int32.ofNat b then Int32.ofNat b else Int32.ofNat a) * ((if Int32.ofNat a < Int32.ofNat b then Int32.ofNat b else Int32.ofNat a) - 1)) / 2) + (if Int32.ofNat b < Int32.ofNat a then Int32.ofNat b else Int32.ofNat a) = Int32.ofNat (sPair a b) := by decide +kernel
section PRICES
variable {d : Nat} {X : zS} {fr nx : Nat} {P : zR0} {c m : zI} {lc : zJ} {cs : List pCl}
theorem t_13 {K : Int32 → zI → zJ → Prop} {a b : Nat} (ha : a < 5) (hb : b < 5) (h : K (Int32.ofNat (sPair a b)) c lc) : TI (d + 1) 13 [.int (Int32.ofNat a), .int (Int32.ofNat b)] (zCS ++ X) (zCR fr nx P) c lc K := by
  refine TI_of (B_13 _ _ ⟨by decide, ?_⟩)
  rw [pr_tab a ha b hb]; exact h
/-- longestFrom: k more than closed -/
theorem t_95 {K : Int32 → zI → zJ → Prop} {k : Nat} (hR : cRu c m cs) (hS : cSc 1 c m) (hp : iP m) (hb : iB m) (hw : iW m) (hm : iMm c lc) (hk : k < 1024)
    (h : ∀ c' lc', iMm c' lc' → mM c lc c' lc' → K (LG (mLook m (tkOf cs)) (mKn m ||| k) (mW m) (mBo m)) c' lc') : TI (d + 14) 95 [.ref 17, .ref 1, .int (Int32.ofNat (clN m cs ||| k)), .ref (ruC m)] (zCS ++ X) (zCR fr nx P) c lc K := by
  obtain ⟨r1, r2, r3, r4⟩ := hR
  obtain ⟨hpa, r4⟩ := r4
  obtain ⟨q1, q2⟩ := iP_of hp
  have hi := (ruC_of r2).1
  have hl := hN_lt hp hw
  have pw := pow_tri _ hp
  have cl := clN_lt m cs
  have hck : clN m cs ||| k < 1024 := Nat.or_lt_two_pow (n := 10) (by omega) (by omega)
  have l0 := cLaw_lt (w := 0) cs 2 r3 (by decide)
  have l1 := cLaw_lt (w := 1) cs 1 r3 (by decide)
  refine TI_of (B_95 1 _ _ (.inl rfl) hi (t_66 (d := d + 11) (.inl rfl) hS hp hb hw ?_))
  rw [hS.1, q1]
  refine t_76 (d := d) hi q2 hck (by omega) (by omega) (by omega) hpa.1 hpa.2.1 hm (fun c' lc' h1 h2 => ?_)
  have e := LC_LG hp r2 r3 1024 (mKn m ||| k) (mW m) (mBo m) (hN m) (Nat.sub_le _ _) (Nat.or_lt_two_pow (n := 10) (by have := (mKn_of hp).2; omega) (by omega)) hw.2 (mBo_of hb).2 (by omega) (by rw [Nat.mod_eq_of_lt hl]; rfl)
  have e2 : kTri (mPe m) ((mKn m ||| k) ||| baN cs) = kTri (mPe m) (clN m cs ||| k) := by
    rw [show (mKn m ||| k) ||| baN cs = (mKn m ||| baN cs) ||| k by rw [Nat.or_assoc, Nat.or_assoc, Nat.or_comm k], kTri_or, ← kTri_cl hp, ← kTri_or]
  rw [e2] at e
  rw [← e]
  exact h c' lc' h1 h2
/-- longest -/
theorem t_94 {K : Int32 → zI → zJ → Prop} (hR : cRu c m cs) (hS : cSc 1 c m) (hp : iP m) (hb : iB m) (hw : iW m) (hm : iMm c lc)
    (h : ∀ c' lc', iMm c' lc' → mM c lc c' lc' → K (aLongest m (tkOf cs)) c' lc') : TI (d + 15) 94 [.ref 0] (zCS ++ X) (zCR fr nx P) c lc K := by
  refine TI_of (B_94 (t_65 (d := d + 12) (.inl rfl) hR hS (t_11 (d := d + 13) hR ⟨by omega, fun c2 e => ?_⟩)))
  obtain rfl : c2 = ruC m := by omega
  have q := t_95 (d := d) (X := X) (fr := fr) (nx := nx) (P := P) (K := fun v c' l' => qI K (some (.int v)) c' l') (k := 0) hR hS hp hb hw hm (by decide) (fun c' lc' a b => by rw [Nat.or_zero]; exact h c' lc' a b)
  rw [Nat.or_zero] at q
  exact q
/-- price -/
theorem t_112 {K : Int32 → zI → zJ → Prop} {a b : Int32} (hR : cRu c m cs) (hS : cSc 1 c m) (hp : iP m) (hb : iB m) (hw : iW m) (hm : iMm c lc)
    (h : ∀ c' lc', iMm c' lc' → mM c lc c' lc' → K (aPrice m (tkOf cs) a b) c' lc') : TI (d + 15) 112 [.ref 0, .int a, .int b] (zCS ++ X) (zCR fr nx P) c lc K := by
  have hrf := h c lc hm (mM_rfl c lc)
  unfold aPrice at h hrf
  refine TI_of (B_112 _ _ (t_9 (d := d + 13) ?_))
  rw [hS.1]
  refine ⟨fun x => ?_, fun x => t_9 (d := d + 13) ?_⟩
  · have x : ¬ mIsPe m a := fun z => by rw [if_pos z] at x; exact absurd x (by decide)
    rw [if_pos (fun z => x z.1)] at hrf; exact hrf
  rw [hS.1]
  have ha : mIsPe m a := Decidable.byContradiction fun z => x (if_neg z)
  refine ⟨fun y => ⟨fun z => ?_, fun z => ?_⟩, fun y => ?_⟩
  · have hbb : mIsPe m b := Decidable.byContradiction fun z => y (if_neg z)
    obtain ⟨x1, x2, x3, x4, x5⟩ := mIsPe_nat hp ha
    obtain ⟨y1, y2, y3, y4, y5⟩ := mIsPe_nat hp hbb
    rw [if_neg (fun q => q ⟨ha, hbb⟩), if_neg z] at hrf
    have h := fun c' lc' u v => (by have := h c' lc' u v; rw [if_neg (fun q => q ⟨ha, hbb⟩), if_neg z] at this; exact this : K (aLongest m (tkOf cs) - LG (mLook m (tkOf cs)) (mKn m ||| 2 ^ sPair a.toNatClampNeg b.toNatClampNeg) (mW m) (mBo m)) c' lc')
    rw [x5, y5] at h
    have hne : ¬ x1 = y1 := fun e => z (by rw [x4, y4, e])
    have hpl := pair_lt _ (iP_of hp).2 _ x3 _ y3 hne
    have ht10 := sTri_le _ (iP_of hp).2
    have hpw : 2 ^ sPair x1 y1 < 1024 := Nat.pow_lt_pow_right (n := 10) (by decide) (by omega)
    refine t_65 (d := d + 12) (.inl rfl) hR hS (t_11 (d := d + 13) hR ⟨by omega, fun c2 e => ?_⟩)
    obtain rfl : c2 = ruC m := by omega
    have first := fun K' h' => t_95 (d := d) (X := X) (fr := fr) (nx := nx) (P := P) (K := K') (k := 0) hR hS hp hb hw hm (by decide) h'
    rw [Nat.or_zero, Nat.or_zero] at first
    refine first _ (fun c1 l1 m1 M1 => ?_)
    rw [x4, y4]
    refine t_13 (d := d + 13) x2 y2 (t_11 (d := d + 13) (cRu_M M1 hR) ⟨by omega, fun c3 e => ?_⟩)
    obtain rfl : c3 = ruC m := by omega
    rw [n_pow _ (by omega), n_or]
    exact t_95 (d := d) (cRu_M M1 hR) (cSc_M (.inl rfl) M1 hS) hp hb hw m1 hpw (fun c2 l2 m2 M2 => h c2 l2 m2 (mM_tr M1 M2))
  · rw [if_neg (fun q => q ⟨ha, Decidable.byContradiction fun z => y (if_neg z)⟩), if_pos (Decidable.not_not.mp z)] at hrf
    exact hrf
  · have y : ¬ mIsPe m b := fun z => y (by rw [if_pos z]; decide)
    rw [if_pos (fun z => y z.2)] at hrf; exact hrf
end PRICES
