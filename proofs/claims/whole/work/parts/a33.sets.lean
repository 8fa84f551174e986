/-! set, boat, meet. -/
section SETS
variable {d : Nat} {X : zS} {fr nx : Nat} {P : zR0} {c m : zI} {lc lm : zJ} {cs : List pCl}
theorem n_b01 {b : Int32} (h : ¬ b < 0) (h1 : ¬ 1 < b) : b = 0 ∨ b = 1 := n_01.mp ⟨Int32.not_lt.mp h, Int32.not_lt.mp h1⟩
theorem t_14 {K : Int32 → zI → zJ → Prop} {a b e : Int32} (h1 : c 1 0 = m 0 0) (h0 : ¬ (mIsPe m a ∧ (b = 0 ∨ b = 1) ∧ (e = 0 ∨ e = 1)) → K (-1) c lc)
    (hs : mIsPe m a → (e = 0 ∨ e = 1) → b = 0 → K ((c 1 1 >>> (a &&& 31)) &&& 1) (zu c 1 1 (wB (c 1 1) a e)) lc)
    (hw : mIsPe m a → (e = 0 ∨ e = 1) → b = 1 → K ((c 1 2 >>> (a &&& 31)) &&& 1) (zu c 1 2 (wB (c 1 2) a e)) lc) : TI (d + 2) 14 [.ref 0, .int a, .int b, .int e] (zCS ++ X) (zCR fr nx P) c lc K := by
  refine TI_of (B_14 _ _ _ (t_9 (d := d) ?_))
  rw [h1]
  by_cases qa : mIsPe m a
  · rw [if_pos qa]
    refine ⟨fun z => absurd z one_ne, fun _ => ⟨fun x => ?_, fun x => ⟨fun y => ?_, fun y => t_6 (d := d) ?_⟩⟩⟩
    · exact h0 (fun z => z.2.1.elim (fun w => by rw [w] at x; exact absurd x (by decide)) (fun w => by rw [w] at x; exact absurd x (by decide)))
    · exact h0 (fun z => z.2.1.elim (fun w => by rw [w] at y; exact absurd y (by decide)) (fun w => by rw [w] at y; exact absurd y (by decide)))
    · by_cases qe : e = 0 ∨ e = 1
      · rw [if_pos qe]
        refine ⟨fun _ => ⟨fun x' => t_7 (d := d) ⟨fun _ => ?_, fun z => absurd x' z⟩, fun x' => t_7 (d := d) ⟨fun z => absurd z x', fun _ => ?_⟩⟩, fun z => absurd one_ne z⟩
        · exact hw qa qe ((n_b01 x y).elim (fun w => absurd w x') id)
        · exact hs qa qe (Decidable.not_not.mp x')
      · rw [if_neg qe]
        exact ⟨fun z => absurd rfl z, fun _ => h0 (fun z => qe z.2.2)⟩
  · rw [if_neg qa]
    exact ⟨fun _ => h0 (fun z => qa z.1), fun z => absurd rfl z⟩
theorem t_164 {K : Int32 → zI → zJ → Prop} {a b e : Int32} (hp : iP m) (h0 : ¬ (mIsPe m a ∧ (b = 0 ∨ b = 1) ∧ (e = 0 ∨ e = 1)) → K (-1) m lm)
    (hs : mIsPe m a → (e = 0 ∨ e = 1) → b = 0 → ∀ m', (∀ x k, ¬ (x = 0 ∧ k = 1) → m' x k = m x k) → m' 0 1 = wB (m 0 1) a e → K ((m 0 1 >>> (a &&& 31)) &&& 1) m' lm)
    (hw : mIsPe m a → (e = 0 ∨ e = 1) → b = 1 → ∀ m', (∀ x k, ¬ (x = 0 ∧ k = 2) → m' x k = m x k) → m' 0 2 = wB (m 0 2) a e → K ((m 0 2 >>> (a &&& 31)) &&& 1) m' lm) : TI (d + 3) 164 [.ref 0, .int a, .int b, .int e] zMS zMR m lm K := by
  refine TI_of (B_164 _ _ _ (t_160 (d := d) hp ?_))
  by_cases qa : mIsPe m a
  · rw [if_pos qa]
    refine ⟨fun z => absurd z one_ne, fun _ => t_157 (d := d + 1) ?_⟩
    by_cases qb : 0 ≤ b ∧ b ≤ 1
    · rw [if_pos qb]
      refine ⟨fun z => absurd z one_ne, fun _ => t_157 (d := d + 1) ?_⟩
      by_cases qe : 0 ≤ e ∧ e ≤ 1
      · rw [if_pos qe]
        have qe' := n_01.mp qe
        refine ⟨fun _ => ⟨fun x => ⟨fun y => ⟨fun z => ?_, fun z => ?_⟩, fun y => absurd x y⟩, fun x => ⟨fun y => absurd y x, fun y => ⟨fun z => ?_, fun z => ?_⟩⟩⟩, fun z => absurd one_ne z⟩
        · exact ((n_01.mp qb).elim x z).elim
        · refine hw qa qe' (Decidable.not_not.mp z) _ (fun x' k w => ?_) zu_eq
          rw [zu_ne w]
          by_cases u : x' = 0 ∧ k = 1
          · rw [u.1, u.2, zu_eq]
          · rw [zu_ne u]
        · refine hs qa qe' (Decidable.not_not.mp x) _ (fun x' k w => ?_) (by rw [zu_nk (by decide), zu_eq]; rfl)
          by_cases u : x' = 0 ∧ k = 2
          · rw [u.1, u.2, zu_eq]
          · rw [zu_ne u, zu_ne w]
        · exact absurd (Decidable.not_not.mp x) (by rw [Decidable.not_not.mp z]; decide)
      · rw [if_neg qe]
        exact ⟨fun z => absurd rfl z, fun _ => h0 (fun z => qe (n_01.mpr z.2.2))⟩
    · rw [if_neg qb]
      exact ⟨fun _ => h0 (fun z => qb (n_01.mpr z.2.1)), fun z => absurd rfl z⟩
  · rw [if_neg qa]
    exact ⟨fun _ => h0 (fun z => qa z.1), fun z => absurd rfl z⟩
theorem t_19 {K : Int32 → zI → zJ → Prop} {a : Int32} (h0 : ¬ (a = 0 ∨ a = 1) → K (-1) c lc) (h1 : (a = 0 ∨ a = 1) → K (c 1 3) (zu c 1 3 a) lc) : TI (d + 2) 19 [.ref 0, .int a] (zCS ++ X) (zCR fr nx P) c lc K := by
  refine TI_of (B_19 _ (t_6 (d := d) ?_))
  by_cases q : a = 0 ∨ a = 1
  · rw [if_pos q]; exact ⟨fun _ => h1 q, fun z => absurd one_ne z⟩
  · rw [if_neg q]; exact ⟨fun z => absurd rfl z, fun _ => h0 q⟩
theorem t_166 {K : Int32 → zI → zJ → Prop} {a : Int32} (h0 : ¬ (a = 0 ∨ a = 1) → K (-1) m lm) (h1 : (a = 0 ∨ a = 1) → K (m 0 3) (zu m 0 3 a) lm) : TI (d + 2) 166 [.ref 0, .int a] zMS zMR m lm K := by
  refine TI_of (B_166 _ (t_157 (d := d) ?_))
  by_cases q : 0 ≤ a ∧ a ≤ 1
  · rw [if_pos q]; exact ⟨fun _ => h1 (n_01.mp q), fun z => absurd one_ne z⟩
  · rw [if_neg q]; exact ⟨fun z => absurd rfl z, fun _ => h0 (fun z => q (n_01.mpr z))⟩
/-- a meeting laid -/
theorem bit_pow (q k : Nat) (hk : k < 32) : (Int32.ofNat (2 ^ q) >>> (Int32.ofNat k &&& 31)) &&& 1 = 0 ↔ ¬ k = q := by
  rw [n_bit0 _ _ hk, Nat.testBit_two_pow, decide_eq_false_iff_not]
  exact ⟨fun z w => z w.symm, fun z w => z w.symm⟩
theorem t_15 {K : Int32 → zI → zJ → Prop} {a b e : Int32} (hp : iP m) (hR : cRu c m cs) (hS : cSc 1 c m) (h0 : ¬ (mIsPe m a ∧ mIsPe m b) → K (-1) c lc) (h2 : mIsPe m a → mIsPe m b → a = b → K (-2) c lc)
    (h : ∀ p q, p < 5 → q < 5 → a = Int32.ofNat p → b = Int32.ofNat q → mIsPe m a → mIsPe m b → ¬ a = b → ∀ c', (∀ x k, ¬ (x = 2 ∧ k < 10) → c' x k = c x k) → (∀ k, k < 10 → c' 2 k = if k = sPair p q then (if e = 0 then -1 else c 1 4) else c 2 k) → K (if mKnows m (sPair p q) then 1 else 0) c' lc) : TI (d + 3) 15 [.ref 0, .int a, .int b, .int e] (zCS ++ X) (zCR fr nx P) c lc K := by
  have ht := (ruC_of hR.2.1).1
  refine TI_of (B_15 _ _ _ (t_9 (d := d + 1) ?_))
  rw [hS.1]
  by_cases qa : mIsPe m a
  · rw [if_pos qa]
    refine ⟨fun z => absurd z one_ne, fun _ => t_9 (d := d + 1) ?_⟩
    rw [hS.1]
    by_cases qb : mIsPe m b
    · rw [if_pos qb]
      refine ⟨fun _ => ⟨fun z => ?_, fun z => h2 qa qb (Decidable.not_not.mp z)⟩, fun z => absurd one_ne z⟩
      obtain ⟨p, p5, pP, ea, ec⟩ := mIsPe_nat hp qa
      obtain ⟨q, q5, qP, eb, ed⟩ := mIsPe_nat hp qb
      have hne : ¬ p = q := fun w => z (by rw [ea, eb, w])
      obtain ⟨u1, u2, u3⟩ := sp_tab p p5 q q5 hne
      have h := h p q p5 q5 ea eb qa qb z
      rw [ea, eb]
      refine t_13 (d := d + 1) p5 q5 (t_11 (d := d + 1) hR ⟨by omega, fun c2 e2 => ?_⟩)
      obtain rfl : c2 = ruC m := by omega
      have kb : (Int32.ofNat (bN (mKnows m) 10) >>> (Int32.ofNat (sPair p q) &&& 31)) &&& 1 = if mKnows m (sPair p q) then 1 else 0 := by
        rw [n_bit _ _ (by omega), bN_bit]
        by_cases k : mKnows m (sPair p q)
        · rw [if_pos (decide_eq_true ⟨u3, k⟩), if_pos k]
        · rw [if_neg (by rw [decide_eq_true_iff]; exact fun z => k z.2), if_neg k]
      refine ⟨g_pa ht (by decide), t_12 (d := d + 1) (.inl rfl) hS ?_⟩
      rw [kn_c hR, kb, n_pow32 _ (by omega)]
      refine ⟨fun w => TV_of (B_18 1 _ (.inl rfl) (t_17 (d := d) (.inl rfl) (fun c' f g => ?_))), fun w => TV_of (B_16 1 _ (.inl rfl) (t_17 (d := d) (.inl rfl) (fun c' f g => ?_)))⟩
      · rw [if_pos w] at h
        refine h c' f (fun k hk => ?_)
        rw [g k hk]
        by_cases kk : k = sPair p q
        · rw [if_pos kk, if_neg (fun y => (bit_pow _ _ (by omega)).mp y kk)]
        · rw [if_neg kk, if_pos ((bit_pow _ _ (by omega)).mpr kk)]
      · rw [if_neg w] at h
        refine h c' f (fun k hk => ?_)
        rw [g k hk]
        by_cases kk : k = sPair p q
        · rw [if_pos kk, if_neg (fun y => (bit_pow _ _ (by omega)).mp y kk)]
        · rw [if_neg kk, if_pos ((bit_pow _ _ (by omega)).mpr kk)]
    · rw [if_neg qb]
      exact ⟨fun z => absurd rfl z, fun _ => h0 (fun z => qb z.2)⟩
  · rw [if_neg qa]
    exact ⟨fun _ => h0 (fun z => qa z.1), fun z => absurd rfl z⟩
theorem t_165 {K : Int32 → zI → zJ → Prop} {a b e : Int32} (hp : iP m) (hi : iH m) (h0 : ¬ (mIsPe m a ∧ mIsPe m b) → K (-1) m lm) (h2 : mIsPe m a → mIsPe m b → a = b → K (-2) m lm)
    (h : ∀ p q, p < 5 → q < 5 → a = Int32.ofNat p → b = Int32.ofNat q → mIsPe m a → mIsPe m b → ¬ a = b → K (if mKnows m (sPair p q) then 1 else 0) (zu m 1 (sPair p q) (if e = 0 then -1 else m 0 4)) lm) : TI (d + 4) 165 [.ref 0, .int a, .int b, .int e] zMS zMR m lm K := by
  refine TI_of (B_165 _ _ _ (t_160 (d := d + 1) hp ?_))
  by_cases qa : mIsPe m a
  · rw [if_pos qa]
    refine ⟨fun z => absurd z one_ne, fun _ => t_160 (d := d + 1) hp ?_⟩
    by_cases qb : mIsPe m b
    · rw [if_pos qb]
      refine ⟨fun _ => ⟨fun z => ?_, fun z => h2 qa qb (Decidable.not_not.mp z)⟩, fun z => absurd one_ne z⟩
      obtain ⟨p, p5, pP, ea, ec⟩ := mIsPe_nat hp qa
      obtain ⟨q, q5, qP, eb, ed⟩ := mIsPe_nat hp qb
      have hne : ¬ p = q := fun w => z (by rw [ea, eb, w])
      obtain ⟨u1, u2, u3⟩ := sp_tab p p5 q q5 hne
      have h := h p q p5 q5 ea eb qa qb z
      have hz := n_zin (k := sPair p q) (n := 10) u3 (by decide)
      have cl := n_cl (show sPair p q < 2147483648 by omega)
      rw [ea, eb]
      refine t_158 (d := d + 2) p5 q5 (t_161 (d := d) hi u3 ⟨fun w => t_158 (d := d + 2) p5 q5 ⟨fun v => ⟨hz, ?_⟩, fun v => ⟨hz, ?_⟩⟩, fun w => t_158 (d := d + 2) p5 q5 ⟨fun v => ⟨hz, ?_⟩, fun v => ⟨hz, ?_⟩⟩⟩)
      · rw [if_neg (fun y => by rw [if_pos y] at w; exact absurd w one_ne), if_pos v] at h
        rw [cl]; exact h
      · rw [if_neg (fun y => by rw [if_pos y] at w; exact absurd w one_ne), if_neg v] at h
        rw [cl]; exact h
      · rw [if_pos (Decidable.byContradiction fun y => w (by rw [if_neg y])), if_pos v] at h
        rw [cl]; exact h
      · rw [if_pos (Decidable.byContradiction fun y => w (by rw [if_neg y])), if_neg v] at h
        rw [cl]; exact h
    · rw [if_neg qb]
      exact ⟨fun z => absurd rfl z, fun _ => h0 (fun z => qb z.2)⟩
  · rw [if_neg qa]
    exact ⟨fun _ => h0 (fun z => qa z.1), fun z => absurd rfl z⟩
end SETS
theorem s_set {a b e : Int32} : sI 14 164 [.int a, .int b, .int e] := by
  intro X fr nx P c lc m lm h
  obtain ⟨cs, hA, hR, hF, hN, hm, hf⟩ := rl_now h
  obtain ⟨⟨s0, s1, s2, s3, s4, s5⟩, s6, s7, s8⟩ := hF
  obtain ⟨i1, i2, i3, i4, i5, i6, i7⟩ := hN
  obtain ⟨q1, q2⟩ := iP_of i1
  refine TG_I (t_14 (d := 38) (m := m) s0 (fun z => ?_) (fun z w eb => ?_) (fun z w eb => ?_))
  · exact t_164 (d := 37) i1 (fun _ => ⟨rfl, h⟩) (fun y w eb => absurd ⟨y, .inl eb, w⟩ z) (fun y w eb => absurd ⟨y, .inr eb, w⟩ z)
  · refine t_164 (d := 37) i1 (fun y => absurd ⟨z, .inl eb, w⟩ y) (fun _ _ _ m' f e1 => ⟨by rw [s1], ?_⟩) (fun _ _ y => absurd eb (by rw [y]; decide))
    obtain ⟨p, p5, pP, ea, ec⟩ := mIsPe_nat i1 z
    obtain ⟨v, l1, r1⟩ := wB_of (q := p) q2 i3.2 pP w
    have e1' : m' 0 1 = Int32.ofNat v := by rw [e1, i3.1, ea, r1]
    have hp' : iP m' := by obtain ⟨p', p1, p2⟩ := i1; exact ⟨p', p1, by rw [f 0 0 (by omega)]; exact p2⟩
    have ep : mPe m' = mPe m := by unfold mPe; rw [f 0 0 (by omega)]
    have ecr : mCr m' = mCr m := by unfold mCr; rw [f 0 4 (by omega)]
    refine rl_up h (fun x k x1 _ => zu_nc (by omega)) (fun k hk => f 0 k (by omega)) (fun x k hx => f x k (by omega)) (fun k hk => f 27 k (by omega)) (fun N ⟨f1, f2, f3⟩ => ?_)
    refine ⟨⟨⟨?_, ?_, ?_, ?_, ?_, fun k hk => ?_⟩, ?_, ?_, fun k hk => ?_⟩, ⟨hp', ?_, iW_of hp' e1' (by rw [ep]; exact l1), ?_, iWt_of hp' (by rw [f 0 2 (by omega)]; exact i5.1) (by rw [ep]; exact i5.2), iBk_eq (f 0 10 (by omega)) (fun k _ => f 5 k (by omega)) i6, fun k k1 k2 => ?_⟩, ?_⟩
    · rw [zu_nk (by decide), f 0 0 (by omega)]; exact s0
    · rw [zu_eq, e1, s1]
    · rw [zu_nk (by decide), f 0 2 (by omega)]; exact s2
    · rw [zu_nk (by decide), f 0 3 (by omega)]; exact s3
    · rw [zu_nk (by decide), f 0 4 (by omega)]; exact s4
    · rw [zu_nc (by decide), f 1 k (by omega)]; exact s5 k hk
    · rw [zu_nk (by decide), f 0 13 (by omega)]; exact s6
    · rw [zu_nk (by decide), f 0 10 (by omega)]; exact s7
    · rw [zu_nc (by decide), f 5 k (by omega)]; exact s8 k hk
    · unfold iB; rw [f 0 3 (by omega)]; exact i2
    · unfold iCr; rw [f 0 4 (by omega), ecr]; exact i4
    · rw [f 1 k (by omega)]; exact i7 k (by rw [← ep]; exact k1) k2
    · unfold rHo; rw [f 0 13 (by omega)]; exact f3
  · refine t_164 (d := 37) i1 (fun y => absurd ⟨z, .inr eb, w⟩ y) (fun _ _ y => absurd eb (by rw [y]; decide)) (fun _ _ _ m' f e1 => ⟨by rw [s2], ?_⟩)
    obtain ⟨p, p5, pP, ea, ec⟩ := mIsPe_nat i1 z
    obtain ⟨v, l1, r1⟩ := wB_of (q := p) q2 i5.2 pP w
    have e1' : m' 0 2 = Int32.ofNat v := by rw [e1, i5.1, ea, r1]
    have hp' : iP m' := by obtain ⟨p', p1, p2⟩ := i1; exact ⟨p', p1, by rw [f 0 0 (by omega)]; exact p2⟩
    have ep : mPe m' = mPe m := by unfold mPe; rw [f 0 0 (by omega)]
    have ecr : mCr m' = mCr m := by unfold mCr; rw [f 0 4 (by omega)]
    refine rl_up h (fun x k x1 _ => zu_nc (by omega)) (fun k hk => f 0 k (by omega)) (fun x k hx => f x k (by omega)) (fun k hk => f 27 k (by omega)) (fun N ⟨f1, f2, f3⟩ => ?_)
    refine ⟨⟨⟨?_, ?_, ?_, ?_, ?_, fun k hk => ?_⟩, ?_, ?_, fun k hk => ?_⟩, ⟨hp', ?_, iW_of hp' (by rw [f 0 1 (by omega)]; exact i3.1) (by rw [ep]; exact i3.2), ?_, iWt_of hp' e1' (by rw [ep]; exact l1), iBk_eq (f 0 10 (by omega)) (fun k _ => f 5 k (by omega)) i6, fun k k1 k2 => ?_⟩, ?_⟩
    · rw [zu_nk (by decide), f 0 0 (by omega)]; exact s0
    · rw [zu_nk (by decide), f 0 1 (by omega)]; exact s1
    · rw [zu_eq, e1, s2]
    · rw [zu_nk (by decide), f 0 3 (by omega)]; exact s3
    · rw [zu_nk (by decide), f 0 4 (by omega)]; exact s4
    · rw [zu_nc (by decide), f 1 k (by omega)]; exact s5 k hk
    · rw [zu_nk (by decide), f 0 13 (by omega)]; exact s6
    · rw [zu_nk (by decide), f 0 10 (by omega)]; exact s7
    · rw [zu_nc (by decide), f 5 k (by omega)]; exact s8 k hk
    · unfold iB; rw [f 0 3 (by omega)]; exact i2
    · unfold iCr; rw [f 0 4 (by omega), ecr]; exact i4
    · rw [f 1 k (by omega)]; exact i7 k (by rw [← ep]; exact k1) k2
    · unfold rHo; rw [f 0 13 (by omega)]; exact f3
theorem s_boat {a : Int32} : sI 19 166 [.int a] := by
  intro X fr nx P c lc m lm h
  obtain ⟨cs, hA, hR, hF, hN, hm, hf⟩ := rl_now h
  obtain ⟨⟨s0, s1, s2, s3, s4, s5⟩, s6, s7, s8⟩ := hF
  obtain ⟨i1, i2, i3, i4, i5, i6, i7⟩ := hN
  refine TG_I (t_19 (d := 38) (fun z => t_166 (d := 38) (fun _ => ⟨rfl, h⟩) (fun y => absurd y z)) (fun z => t_166 (d := 38) (fun y => absurd z y) (fun _ => ⟨s3, ?_⟩)))
  have f : ∀ x k, ¬ (x = 0 ∧ k = 3) → zu m 0 3 a x k = m x k := fun x k w => zu_ne w
  refine rl_up h (fun x k x1 _ => zu_nc (by omega)) (fun k hk => f 0 k (by omega)) (fun x k hx => f x k (by omega)) (fun k hk => f 27 k (by omega)) (fun N ⟨f1, f2, f3⟩ => ?_)
  have e3 : zu m 0 3 a 0 3 = a := zu_eq
  generalize zu m 0 3 a = m' at f e3
  have hp' : iP m' := by obtain ⟨p', p1, p2⟩ := i1; exact ⟨p', p1, by rw [f 0 0 (by omega)]; exact p2⟩
  have ep : mPe m' = mPe m := by unfold mPe; rw [f 0 0 (by omega)]
  have ecr : mCr m' = mCr m := by unfold mCr; rw [f 0 4 (by omega)]
  refine ⟨⟨⟨?_, ?_, ?_, ?_, ?_, fun k hk => ?_⟩, ?_, ?_, fun k hk => ?_⟩, ⟨hp', ?_, iW_of hp' (by rw [f 0 1 (by omega)]; exact i3.1) (by rw [ep]; exact i3.2), ?_, iWt_of hp' (by rw [f 0 2 (by omega)]; exact i5.1) (by rw [ep]; exact i5.2), iBk_eq (f 0 10 (by omega)) (fun k _ => f 5 k (by omega)) i6, fun k k1 k2 => ?_⟩, ?_⟩
  · rw [zu_nk (by decide), f 0 0 (by omega)]; exact s0
  · rw [zu_nk (by decide), f 0 1 (by omega)]; exact s1
  · rw [zu_nk (by decide), f 0 2 (by omega)]; exact s2
  · rw [zu_eq, e3]
  · rw [zu_nk (by decide), f 0 4 (by omega)]; exact s4
  · rw [zu_nc (by decide), f 1 k (by omega)]; exact s5 k hk
  · rw [zu_nk (by decide), f 0 13 (by omega)]; exact s6
  · rw [zu_nk (by decide), f 0 10 (by omega)]; exact s7
  · rw [zu_nc (by decide), f 5 k (by omega)]; exact s8 k hk
  · unfold iB; rw [e3]; exact z
  · unfold iCr; rw [f 0 4 (by omega), ecr]; exact i4
  · rw [f 1 k (by omega)]; exact i7 k (by rw [← ep]; exact k1) k2
  · unfold rHo; rw [f 0 13 (by omega)]; exact f3
theorem pr_lt {m : zI} (hp : iP m) {p q : Nat} (ha : p < mPe m) (hb : q < mPe m) (hne : ¬ p = q) : sPair p q < sTri (mPe m) := pair_lt _ (iP_of hp).2 p ha q hb hne
theorem s_meet {a b e : Int32} : sI 15 165 [.int a, .int b, .int e] := by
  intro X fr nx P c lc m lm h
  obtain ⟨cs, hA, hR, hF, hN, hm, hf⟩ := rl_now h
  have hF' := hF
  have hN' := hN
  obtain ⟨⟨s0, s1, s2, s3, s4, s5⟩, s6, s7, s8⟩ := hF
  obtain ⟨i1, i2, i3, i4, i5, i6, i7⟩ := hN
  refine TG_I (t_15 (d := 37) i1 hR hF'.1 (fun z => ?_) (fun z w eb => ?_) (fun p q p5 q5 ea eb qa qb ne c' f g => ?_))
  · exact t_165 (d := 36) i1 hA.1 (fun _ => ⟨rfl, h⟩) (fun y w _ => absurd ⟨y, w⟩ z) (fun _ _ _ _ _ _ y w _ => absurd ⟨y, w⟩ z)
  · exact t_165 (d := 36) i1 hA.1 (fun y => absurd ⟨z, w⟩ y) (fun _ _ _ => ⟨rfl, h⟩) (fun _ _ _ _ _ _ _ _ y => absurd eb y)
  · refine t_165 (d := 36) i1 hA.1 (fun y => absurd ⟨qa, qb⟩ y) (fun _ _ y => absurd y ne) (fun p' q' p5' q5' ea' eb' _ _ _ => ?_)
    obtain rfl := n_inj32 ea ea' (by omega) (by omega)
    obtain rfl := n_inj32 eb eb' (by omega) (by omega)
    refine ⟨rfl, rl_up h (fun x k x1 _ => f x k (by omega)) (fun k hk => zu_nc (by decide)) (fun x k hx => zu_nc (by omega)) (fun k hk => zu_nc (by decide)) (fun N ⟨f1, f2, f3⟩ => ⟨⟨⟨?_, ?_, ?_, ?_, ?_, fun k hk => ?_⟩, ?_, ?_, fun k hk => ?_⟩, ⟨?_, ?_, ?_, ?_, ?_, iBk_eq (zu_nc (by decide)) (fun k _ => zu_nc (by decide)) i6, fun k k1 k2 => ?_⟩, ?_⟩)⟩
    · rw [f 1 0 (by omega), zu_nc (by decide)]; exact s0
    · rw [f 1 1 (by omega), zu_nc (by decide)]; exact s1
    · rw [f 1 2 (by omega), zu_nc (by decide)]; exact s2
    · rw [f 1 3 (by omega), zu_nc (by decide)]; exact s3
    · rw [f 1 4 (by omega), zu_nc (by decide)]; exact s4
    · rw [g k hk, s4]
      by_cases kk : k = sPair p q
      · rw [if_pos kk, kk, zu_eq]
      · rw [if_neg kk, zu_nk kk]; exact s5 k hk
    · rw [f 1 6 (by omega), zu_nc (by decide)]; exact s6
    · rw [f 1 8 (by omega), zu_nc (by decide)]; exact s7
    · rw [f 3 k (by omega), zu_nc (by decide)]; exact s8 k hk
    · exact i1
    · exact i2
    · exact i3
    · exact i4
    · exact i5
    · obtain ⟨_, _, pP, ea2, _⟩ := mIsPe_nat i1 qa
      obtain ⟨_, _, qP, eb2, _⟩ := mIsPe_nat i1 qb
      have pP : p < mPe m := by have := n_inj32 ea ea2 (by omega) (by omega); omega
      have qP : q < mPe m := by have := n_inj32 eb eb2 (by omega) (by omega); omega
      have := pr_lt i1 pP qP (fun w => ne (by rw [ea, eb, w]))
      have k1 : sTri (mPe m) ≤ k := k1
      rw [zu_nk (by omega)]
      exact i7 k k1 k2
    · exact f3
