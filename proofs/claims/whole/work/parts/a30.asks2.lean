/-! of, told, pair. -/
def aqN (m : zI) (p : Nat) : Nat → Nat
  | 0 => 0
  | o + 1 => if ¬ o = p ∧ mKnows m (sPair p o) then aqN m p o + 1 else aqN m p o
def aOf (m : zI) (a b : Int32) : Int32 := if ¬ mIsPe m a then -1 else if ¬ (0 ≤ b ∧ b ≤ 2) then -1 else if b = 0 then (m 0 1 >>> (a &&& 31)) &&& 1 else if b = 1 then (m 0 2 >>> (a &&& 31)) &&& 1 else Int32.ofNat (aqN m a.toNatClampNeg (mPe m))
def aTold (m : zI) (a : Int32) : Int32 := if 0 ≤ a ∧ a ≤ 2 then mLaw m a else if a = 3 then m 0 3 else if a = 4 then m 0 4 else if a = 5 then Int32.ofNat (pcN (bN (mKnows m) 10) 32) else -1
def aPair (m : zI) (cs : List pCl) (a b e : Int32) : Int32 :=
  if ¬ mIsPe m a then -1 else if ¬ mIsPe m b then -1 else if ¬ (0 ≤ e ∧ e ≤ 2) then -1 else if a = b then -2
  else if e = 0 then (if mKnows m (sPair a.toNatClampNeg b.toNatClampNeg) then 1 else 0)
  else if e = 1 then (if cBarB cs (sPair a.toNatClampNeg b.toNatClampNeg) = true then 1 else 0)
  else if m 1 (sPair a.toNatClampNeg b.toNatClampNeg) = -1 then -5 else m 0 4 - m 1 (sPair a.toNatClampNeg b.toNatClampNeg)
theorem sp_tab : ∀ a : Nat, a < 5 → ∀ b : Nat, b < 5 → ¬ a = b → pA (sPair a b) = min a b ∧ pB (sPair a b) = max a b ∧ sPair a b < 10 := by decide +kernel
theorem ones_pc : ∀ x : Nat, x < 1024 → sOnes (Int32.ofNat x) 10 = Int32.ofNat (pcN x 32) := by decide +kernel
theorem kn_tri {m : zI} (h : iNw m) : bN (mKnows m) 10 = bN (mKnows m) (sTri (mPe m)) := by
  apply Nat.eq_of_testBit_eq
  intro i
  rw [bN_bit, bN_bit]
  have h10 := sTri_le _ (iP_of h.1).2
  by_cases hi : i < sTri (mPe m)
  · have : i < 10 := by omega
    simp [hi, this]
  · have : ¬ (i < 10 ∧ mKnows m i) := fun z => z.2.1 (h.2.2.2.2.2.2 i (by omega) z.1)
    simp [hi, this]
theorem kn_c {c m : zI} {cs : List pCl} (hR : cRu c m cs) : sBits (fun k => sKnow (m 1 k) (m 0 4 + 0) (c (ruC m) 2)) 10 = Int32.ofNat (bN (mKnows m) 10) := by
  have e : mLaw m 2 = Int32.ofNat (cLaw 2 0 cs) := hold_law hR.2.1 hR.2.2.1 (w := 2) (by decide)
  rw [hR.2.2.2.1.2.2.1, ← e, Int32.add_zero]
  exact sBits_bN _ 10 (by decide)
theorem bar_k {m : zI} {cs : List pCl} (h : iHold m cs) (hc : iCs cs) {a b : Nat} (ha : a < 5) (hb : b < 5) (hab : ¬ a = b) : mBar m (tkOf cs) a b = true ↔ cBarB cs (sPair a b) = true := by
  obtain ⟨q1, q2, q3⟩ := sp_tab a ha b hb hab
  rw [← hold_bar h hc q3]
  have e : mBar m (tkOf cs) (pA (sPair a b)) (pB (sPair a b)) = mBar m (tkOf cs) a b := by
    rw [q1, q2]
    unfold mBar
    rw [show min (min a b) (max a b) = min a b by omega, show max (min a b) (max a b) = max a b by omega]
  show _ ↔ mBar m (tkOf cs) (pA (sPair a b)) (pB (sPair a b)) = true
  rw [e]
theorem one_ne : (1 : Int32) ≠ 0 := by decide
section ASKSC
variable {d : Nat} {X : zS} {fr nx : Nat} {P : zR0} {c m : zI} {lc : zJ} {cs : List pCl}
theorem t_10_12 {Q : zQ} {p : Nat} (hp5 : p < 5) (hp : iP m) (h10 : c 1 0 = m 0 0) (h : Q (some (.int (Int32.ofNat (aqN m p (mPe m))))) c lc) : ∀ j o : Nat, o + j = mPe m → Wf (d + 2) 10 12 [.ref 0, .int (Int32.ofNat p), .int (Int32.ofNat (bN (mKnows m) 10)), .int (Int32.ofNat (aqN m p o)), .int (Int32.ofNat o)] [] (zCS ++ X) (zCR fr nx P) c lc Q
  | 0, o, e => by
    obtain ⟨q1, q2⟩ := iP_of hp
    obtain rfl : o = mPe m := by omega
    exact B_10_12 _ _ _ _ ⟨fun _ => h, fun x => absurd (by rw [h10, q1]; exact Int32.le_refl _) x⟩
  | j + 1, o, e => by
    obtain ⟨q1, q2⟩ := iP_of hp
    have ih := t_10_12 hp5 hp h10 h j (o + 1) (by omega)
    rw [aqN] at ih
    refine B_10_12 _ _ _ _ ⟨fun x => ?_, fun _ => ⟨fun x => ?_, fun x => ?_⟩⟩
    · rw [h10, q1] at x
      exact absurd ((n_le (by omega) (by omega)).mp x) (by omega)
    · have := (n_eq (by omega) (by omega)).mp x
      rw [if_neg (fun z => z.1 this)] at ih
      rw [n_suc]; exact ih
    · have hne : ¬ o = p := fun z => x (by rw [z])
      obtain ⟨u1, u2, u3⟩ := sp_tab p hp5 o (by omega) (fun z => hne z.symm)
      refine t_13 (d := d) hp5 (by omega) ?_
      rw [n_bit _ _ (by omega), bN_bit, n_suc]
      by_cases k : mKnows m (sPair p o)
      · rw [if_pos ⟨hne, k⟩] at ih
        rw [if_pos (decide_eq_true ⟨u3, k⟩), n_suc]; exact ih
      · rw [if_neg (fun z => k z.2)] at ih
        rw [if_neg (by rw [decide_eq_true_iff]; exact fun z => k z.2), Int32.add_zero]; exact ih
theorem t_10 {K : Int32 → zI → zJ → Prop} {p : Nat} (hp5 : p < 5) (hp : iP m) (hR : cRu c m cs) (hS : cSc 1 c m) (h : K (Int32.ofNat (aqN m p (mPe m))) c lc) : TI (d + 2) 10 [.ref 0, .int (Int32.ofNat p)] (zCS ++ X) (zCR fr nx P) c lc K := by
  refine TI_of (B_10 _ (t_11 (d := d) hR ⟨by omega, fun c2 e2 => ?_⟩))
  obtain rfl : c2 = ruC m := by omega
  refine ⟨g_pa (ruC_of hR.2.1).1 (by decide), t_12 (d := d) (.inl rfl) hS ?_⟩
  rw [kn_c hR]
  exact t_10_12 hp5 hp hS.1 h (mPe m) 0 (by omega)
/-- of -/
theorem t_8 {K : Int32 → zI → zJ → Prop} {a b : Int32} (hp : iP m) (hR : cRu c m cs) (hS : cSc 1 c m) (h : K (aOf m a b) c lc) : TI (d + 3) 8 [.ref 0, .int a, .int b] (zCS ++ X) (zCR fr nx P) c lc K := by
  unfold aOf at h
  refine TI_of (B_8 _ _ (t_9 (d := d + 1) ?_))
  rw [hS.1]
  by_cases q : mIsPe m a
  · rw [if_pos q]
    rw [if_neg (fun z => z q)] at h
    obtain ⟨p, p5, pP, ea, ec⟩ := mIsPe_nat hp q
    refine ⟨fun _ => ⟨fun x => ?_, fun x => ⟨fun y => ?_, fun y => ⟨fun z => ?_, fun z => ?_⟩⟩⟩, fun z => absurd one_ne z⟩
    · subst x
      rw [if_neg (by decide), if_pos rfl] at h
      rw [hS.2.1]; exact h
    · subst y
      rw [if_neg (by decide), if_neg (by decide), if_pos rfl] at h
      rw [hS.2.2.1]; exact h
    · subst z
      rw [if_neg (by decide), if_neg (by decide), if_neg (by decide), ec] at h
      rw [ea]
      exact t_10 (d := d) p5 hp hR hS h
    · rw [if_pos (fun w => (n_012 w.1 w.2).elim x (fun w => w.elim y z))] at h
      exact h
  · rw [if_neg q]
    rw [if_pos q] at h
    exact ⟨fun z => absurd rfl z, fun _ => h⟩
/-- told -/
theorem t_49 {K : Int32 → zI → zJ → Prop} {a : Int32} (hR : cRu c m cs) (hS : cSc 1 c m) (h : K (aTold m a) c lc) : TI (d + 2) 49 [.ref 0, .int a] (zCS ++ X) (zCR fr nx P) c lc K := by
  unfold aTold at h
  have ht := (ruC_of hR.2.1).1
  have hP := hR.2.2.2
  refine TI_of (B_49 _ (t_11 (d := d) hR ⟨by omega, fun c2 e2 => ?_⟩))
  obtain rfl : c2 = ruC m := by omega
  refine ⟨fun x => ⟨g_pa ht (by decide), ?_⟩, fun x => ⟨fun y => ⟨g_pa ht (by decide), ?_⟩, fun y => ⟨fun z => ⟨g_pa ht (by decide), ?_⟩, fun z => ⟨fun w => ?_, fun w => ⟨fun v => ?_, fun v => ⟨fun u => ⟨g_pa ht (by decide), ?_⟩, fun u => ?_⟩⟩⟩⟩⟩⟩
  · subst x
    rw [if_pos (by decide)] at h
    have e : mLaw m 0 = Int32.ofNat (cLaw 0 2 cs) := hold_law hR.2.1 hR.2.2.1 (w := 0) (by decide)
    rw [hP.1.1, ← e]; exact h
  · subst y
    rw [if_pos (by decide)] at h
    have e : mLaw m 1 = Int32.ofNat (cLaw 1 1 cs) := hold_law hR.2.1 hR.2.2.1 (w := 1) (by decide)
    rw [hP.1.2.1, ← e]; exact h
  · subst z
    rw [if_pos (by decide)] at h
    have e : mLaw m 2 = Int32.ofNat (cLaw 2 0 cs) := hold_law hR.2.1 hR.2.2.1 (w := 2) (by decide)
    rw [hP.1.2.2.1, ← e]; exact h
  · subst w
    rw [if_neg (by decide), if_pos rfl] at h
    rw [hS.2.2.2.1]; exact h
  · subst v
    rw [if_neg (by decide), if_neg (by decide), if_pos rfl] at h
    rw [hS.2.2.2.2.1]; exact h
  · subst u
    rw [if_neg (by decide), if_neg (by decide), if_neg (by decide), if_pos rfl] at h
    refine t_12 (d := d) (.inl rfl) hS ?_
    rw [kn_c hR]
    exact t_50 (d := d) (Nat.lt_of_lt_of_le (bN_lt _ 10) (by decide)) h
  · rw [if_neg (fun q => (n_012 q.1 q.2).elim x (fun q => q.elim y z)), if_neg w, if_neg v, if_neg u] at h
    exact h
/-- pair -/
theorem t_51 {K : Int32 → zI → zJ → Prop} {a b e : Int32} (hp : iP m) (hR : cRu c m cs) (hS : cSc 1 c m) (h : K (aPair m cs a b e) c lc) : TI (d + 2) 51 [.ref 0, .int a, .int b, .int e] (zCS ++ X) (zCR fr nx P) c lc K := by
  unfold aPair at h
  have ht := (ruC_of hR.2.1).1
  have hP := hR.2.2.2
  refine TI_of (B_51 _ _ _ (t_9 (d := d) ?_))
  rw [hS.1]
  by_cases qa : mIsPe m a
  · rw [if_pos qa]
    rw [if_neg (fun z => z qa)] at h
    refine ⟨fun z => absurd z one_ne, fun _ => t_9 (d := d) ?_⟩
    rw [hS.1]
    by_cases qb : mIsPe m b
    · rw [if_pos qb]
      rw [if_neg (fun z => z qb)] at h
      obtain ⟨p, p5, pP, ea, ec⟩ := mIsPe_nat hp qa
      obtain ⟨p', p5', pP', ea', ec'⟩ := mIsPe_nat hp qb
      refine ⟨fun z => absurd z one_ne, fun _ => ⟨fun x => ?_, fun x => ⟨fun y => ⟨fun z => ?_, fun z => ?_⟩, fun y => ?_⟩⟩⟩
      · rw [if_pos (fun w => absurd x (Int32.not_lt.mpr w.1))] at h; exact h
      · rw [if_neg (fun w => w ⟨Int32.not_lt.mp x, y⟩), if_neg z, ec, ec'] at h
        have hne : ¬ p = p' := fun w => z (by rw [ea, ea', w])
        obtain ⟨u1, u2, u3⟩ := sp_tab p p5 p' p5' hne
        rw [ea, ea']
        refine t_13 (d := d) p5 p5' ⟨fun w => t_11 (d := d) hR ⟨by omega, fun c2 e2 => ?_⟩, fun w => ⟨fun v => t_11 (d := d) hR ⟨by omega, fun c2 e2 => ?_⟩, fun v => TI_of (B_52 1 _ (.inl rfl) ⟨fun u => absurd ((n_lt (b := 0) (by omega) (by decide)).mp u) (by omega), fun _ => ⟨fun u => absurd ((n_le (a := 10) (by decide) (by omega)).mp u) (by omega), fun _ => ⟨n_zin u3 (by decide), ?_⟩⟩⟩)⟩⟩
        · obtain rfl : c2 = ruC m := by omega
          refine ⟨g_pa ht (by decide), t_12 (d := d) (.inl rfl) hS ?_⟩
          rw [kn_c hR, n_bit _ _ (by omega), bN_bit]
          rw [if_pos w] at h
          by_cases k : mKnows m (sPair p p')
          · rw [if_pos k] at h
            rw [if_pos (decide_eq_true ⟨u3, k⟩)]; exact h
          · rw [if_neg k] at h
            rw [if_neg (by rw [decide_eq_true_iff]; exact fun z => k z.2)]; exact h
        · obtain rfl : c2 = ruC m := by omega
          refine ⟨g_pa ht (by decide), ?_⟩
          rw [hP.1.2.2.2, sBits_bN _ 10 (by decide), n_bit _ _ (by omega), bN_bit]
          rw [if_neg w, if_pos v] at h
          by_cases k : cBarB cs (sPair p p') = true
          · rw [if_pos k] at h
            rw [if_pos (decide_eq_true ⟨u3, k⟩)]; exact h
          · rw [if_neg k] at h
            rw [if_neg (by rw [decide_eq_true_iff]; exact fun z => k z.2)]; exact h
        · rw [if_neg w, if_neg v] at h
          rw [n_cl (show sPair p p' < 2147483648 by omega), hS.2.2.2.2.2 _ u3, hS.2.2.2.2.1]
          refine ⟨fun k => ⟨n_zin u3 (by decide), ?_⟩, fun k => ?_⟩
          · rw [if_neg k] at h; exact h
          · rw [if_pos (Decidable.not_not.mp k)] at h; exact h
      · rw [if_neg (fun w => w ⟨Int32.not_lt.mp x, y⟩), if_pos (Decidable.not_not.mp z)] at h; exact h
      · rw [if_pos (fun w => y w.2)] at h; exact h
    · rw [if_neg qb]
      rw [if_pos qb] at h
      exact ⟨fun _ => h, fun z => absurd rfl z⟩
  · rw [if_neg qa]
    rw [if_pos qa] at h
    exact ⟨fun _ => h, fun z => absurd rfl z⟩
end ASKSC
section ASKSM
variable {d : Nat} {m : zI} {lm : zJ} {cs : List pCl}
theorem t_159_15 {Q : zQ} {p : Nat} {b : Int32} (hp5 : p < 5) (hp : iP m) (hi : iH m) (hb : b = 0 ∨ b = 1 ∨ b = 2) (h : Q (some (.int (if b = 0 then (m 0 1 >>> (Int32.ofNat p &&& 31)) &&& 1 else if b = 1 then (m 0 2 >>> (Int32.ofNat p &&& 31)) &&& 1 else Int32.ofNat (aqN m p (mPe m))))) m lm) : ∀ j o : Nat, o + j = mPe m → Wf (d + 4) 159 15 [.ref 0, .int (Int32.ofNat p), .int b, .int (Int32.ofNat (aqN m p o)), .int (Int32.ofNat o)] [] zMS zMR m lm Q
  | 0, o, e => by
    obtain ⟨q1, q2⟩ := iP_of hp
    obtain rfl : o = mPe m := by omega
    refine B_159_15 _ _ _ _ ⟨fun _ => ⟨fun x => ⟨fun y => ?_, fun y => ?_⟩, fun x => ?_⟩, fun x => absurd (by rw [q1]; exact Int32.le_refl _) x⟩
    · rw [if_neg x, if_neg y] at h; exact h
    · rw [if_neg x, if_pos (Decidable.not_not.mp y)] at h; exact h
    · rw [if_pos (Decidable.not_not.mp x)] at h; exact h
  | j + 1, o, e => by
    obtain ⟨q1, q2⟩ := iP_of hp
    have ih := t_159_15 hp5 hp hi hb h j (o + 1) (by omega)
    rw [aqN] at ih
    refine B_159_15 _ _ _ _ ⟨fun x => ?_, fun _ => ⟨fun x => ?_, fun x => ?_⟩⟩
    · rw [q1] at x
      exact absurd ((n_le (by omega) (by omega)).mp x) (by omega)
    · have := (n_eq (by omega) (by omega)).mp x
      rw [if_neg (fun z => z.1 this)] at ih
      rw [n_suc, Int32.add_zero]; exact ih
    · have hne : ¬ o = p := fun z => x (by rw [z])
      obtain ⟨u1, u2, u3⟩ := sp_tab p hp5 o (by omega) (fun z => hne z.symm)
      refine t_158 (d := d + 2) hp5 (by omega) (t_161 (d := d) hi u3 ?_)
      rw [n_suc]
      by_cases k : mKnows m (sPair p o)
      · rw [if_pos ⟨hne, k⟩] at ih
        rw [if_pos k]
        refine ⟨fun z => absurd z one_ne, fun _ => ?_⟩
        rw [n_suc]; exact ih
      · rw [if_neg (fun z => k z.2)] at ih
        rw [if_neg k]
        refine ⟨fun _ => ?_, fun z => absurd rfl z⟩
        rw [Int32.add_zero]; exact ih
theorem t_159 {K : Int32 → zI → zJ → Prop} {a b : Int32} (hp : iP m) (hi : iH m) (h : K (aOf m a b) m lm) : TI (d + 4) 159 [.ref 0, .int a, .int b] zMS zMR m lm K := by
  unfold aOf at h
  refine TI_of (B_159 _ _ (t_160 (d := d + 1) hp ?_))
  by_cases q : mIsPe m a
  · rw [if_pos q]
    rw [if_neg (fun z => z q)] at h
    obtain ⟨p, p5, pP, ea, ec⟩ := mIsPe_nat hp q
    refine ⟨fun z => absurd z one_ne, fun _ => t_157 (d := d + 2) ?_⟩
    by_cases r : 0 ≤ b ∧ b ≤ 2
    · rw [if_pos r]
      rw [if_neg (fun z => z r), ec, ea] at h
      refine ⟨fun _ => ?_, fun z => absurd one_ne z⟩
      rw [ea]
      exact t_159_15 (d := d) p5 hp hi (n_012 r.1 r.2) h (mPe m) 0 (by omega)
    · rw [if_neg r]
      rw [if_pos r] at h
      exact ⟨fun z => absurd rfl z, fun _ => h⟩
  · rw [if_neg q]
    rw [if_pos q] at h
    exact ⟨fun _ => h, fun z => absurd rfl z⟩
theorem t_182 {K : Int32 → zI → zJ → Prop} {a : Int32} (hi : iH m) (hN : iNw m) (h : K (aTold m a) m lm) : TI (d + 5) 182 [.ref 0, .int a] zMS zMR m lm K := by
  unfold aTold at h
  refine TI_of (B_182 _ ⟨fun x => ?_, fun x => ⟨fun y => ?_, fun y => ⟨fun z => ?_, fun z => ⟨fun w => ?_, fun w => ⟨fun v => ?_, fun v => ⟨fun u => ?_, fun u => ?_⟩⟩⟩⟩⟩⟩)
  · subst x
    rw [if_pos (by decide)] at h
    exact t_162 (d := d + 2) hi 0 h
  · subst y
    rw [if_pos (by decide)] at h
    exact t_162 (d := d + 2) hi 1 h
  · subst z
    rw [if_pos (by decide)] at h
    exact t_162 (d := d + 2) hi 2 h
  · subst w
    rw [if_neg (by decide), if_pos rfl] at h
    exact h
  · subst v
    rw [if_neg (by decide), if_neg (by decide), if_pos rfl] at h
    exact h
  · subst u
    rw [if_neg (by decide), if_neg (by decide), if_neg (by decide), if_pos rfl] at h
    refine t_183 (d := d) hi hN.1 (t_184 (d := d + 3) _ ?_)
    have e : sOnes (mKnown m) 10 = Int32.ofNat (pcN (bN (mKnows m) 10) 32) := by
      unfold mKnown
      rw [sBits_bN _ _ (by have := sTri_le _ (iP_of hN.1).2; omega), ← kn_tri hN]
      exact ones_pc _ (bN_lt _ 10)
    rw [e]; exact h
  · rw [if_neg (fun q => (n_012 q.1 q.2).elim x (fun q => q.elim y z)), if_neg w, if_neg v, if_neg u] at h
    exact h
theorem t_185 {K : Int32 → zI → zJ → Prop} {a b e : Int32} (hp : iP m) (hi : iH m) (hH : iHold m cs) (hc : iCs cs) (h : ∀ m', mT m m' → K (aPair m cs a b e) m' lm) : TI (d + 4) 185 [.ref 0, .int a, .int b, .int e] zMS zMR m lm K := by
  unfold aPair at h
  refine TI_of (B_185 _ _ _ (t_160 (d := d + 1) hp ?_))
  by_cases qa : mIsPe m a
  · rw [if_pos qa]
    rw [if_neg (fun z => z qa)] at h
    refine ⟨fun z => absurd z one_ne, fun _ => t_160 (d := d + 1) hp ?_⟩
    by_cases qb : mIsPe m b
    · rw [if_pos qb]
      rw [if_neg (fun z => z qb)] at h
      obtain ⟨p, p5, pP, ea, ec⟩ := mIsPe_nat hp qa
      obtain ⟨p', p5', pP', ea', ec'⟩ := mIsPe_nat hp qb
      refine ⟨fun z => absurd z one_ne, fun _ => t_157 (d := d + 2) ?_⟩
      by_cases r : 0 ≤ e ∧ e ≤ 2
      · rw [if_pos r]
        rw [if_neg (fun z => z r)] at h
        refine ⟨fun _ => ⟨fun z => ?_, fun z => ?_⟩, fun z => absurd one_ne z⟩
        · rw [if_neg z, ec, ec'] at h
          have hne : ¬ p = p' := fun w => z (by rw [ea, ea', w])
          obtain ⟨u1, u2, u3⟩ := sp_tab p p5 p' p5' hne
          rw [ea, ea']
          refine t_158 (d := d + 2) p5 p5' ⟨fun w => ⟨fun v => ⟨n_zin u3 (by decide), ?_⟩, fun v => t_186 (d := d + 1) p5 p5' hi (hold_T hH hc) (fun m' A => ⟨fun k => ?_, fun k => ?_⟩)⟩, fun w => t_161 (d := d) hi u3 ⟨fun k => ?_, fun k => ?_⟩⟩
          · rw [if_neg w, if_neg v] at h
            rw [n_cl (show sPair p p' < 2147483648 by omega)]
            refine ⟨fun k => ⟨n_zin u3 (by decide), ?_⟩, fun k => ?_⟩
            · have := h m mT.rfl
              rw [if_neg k] at this; exact this
            · have := h m mT.rfl
              rw [if_pos (Decidable.not_not.mp k)] at this; exact this
          · rw [if_neg w, if_pos (Decidable.not_not.mp v)] at h
            have := h m' (mAs.t A (by decide))
            rw [if_neg (fun y => by rw [(bar_k hH hc p5 p5' hne).mpr y] at k; exact absurd k (by decide))] at this
            exact this
          · rw [if_neg w, if_pos (Decidable.not_not.mp v)] at h
            have := h m' (mAs.t A (by decide))
            rw [if_pos ((bar_k hH hc p5 p5' hne).mp (by
              cases hh : mBar m (tkOf cs) p p' with
              | true => rfl
              | false => rw [hh] at k; exact absurd rfl k))] at this
            exact this
          · rw [if_pos (Decidable.not_not.mp w)] at h
            have := h m mT.rfl
            rw [if_neg (fun y => by rw [if_pos y] at k; exact absurd k one_ne)] at this
            exact this
          · rw [if_pos (Decidable.not_not.mp w)] at h
            have := h m mT.rfl
            rw [if_pos (Decidable.byContradiction fun y => by rw [if_neg y] at k; exact k rfl)] at this
            exact this
        · rw [if_pos (Decidable.not_not.mp z)] at h; exact h m mT.rfl
      · rw [if_neg r]
        rw [if_pos r] at h
        exact ⟨fun z => absurd rfl z, fun _ => h m mT.rfl⟩
    · rw [if_neg qb]
      rw [if_pos qb] at h
      exact ⟨fun _ => h m mT.rfl, fun z => absurd rfl z⟩
  · rw [if_neg qa]
    rw [if_pos qa] at h
    exact ⟨fun _ => h m mT.rfl, fun z => absurd rfl z⟩
end ASKSM
theorem s_of {a b : Int32} : sI 8 159 [.int a, .int b] := by
  intro X fr nx P c lc m lm h
  obtain ⟨cs, hA, hR, hF, hN, hm, hf⟩ := rl_now h
  exact TG_I (t_8 (d := 37) hA.2.1 hR hF.1 (t_159 (d := 36) hA.2.1 hA.1 ⟨rfl, h⟩))
theorem s_told {a : Int32} : sI 49 182 [.int a] := by
  intro X fr nx P c lc m lm h
  obtain ⟨cs, hA, hR, hF, hN, hm, hf⟩ := rl_now h
  exact TG_I (t_49 (d := 38) hR hF.1 (t_182 (d := 35) hA.1 hN ⟨rfl, h⟩))
theorem s_pair {a b e : Int32} : sI 51 185 [.int a, .int b, .int e] := by
  intro X fr nx P c lc m lm h
  obtain ⟨cs, hA, hR, hF, hN, hm, hf⟩ := rl_now h
  exact TG_I (t_51 (d := 38) hA.2.1 hR hF.1 (t_185 (d := 36) hA.2.1 hA.1 hR.2.1 hR.2.2.1 (fun m' t => ⟨rfl, rl_q h hf hm (fC_rfl c lc) t (fun _ => rfl)⟩)))
