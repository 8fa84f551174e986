/-! image, undo: side by side. -/
theorem rPl_eq2 {T : Nat → Nat} {X : zS} {P : zR0} {c c' m m' : zI} (h0 : c' 0 10 = c 0 10) (h : ∀ p k, p < mPl m → c' (T p) k = c (T p) k) (hr : ∀ p, p < mPl m → mKd m p = 5 → ∀ k, k < 3 → c' (T p + 1) k = m' 4 (3 * p + k)) (g0 : m' 0 6 = m 0 6) (g : ∀ x k, x = 2 ∨ x = 3 → m' x k = m x k) (hi : iPl m') (q : rPl T X P c m) : rPl T X P c' m' := by
  obtain ⟨a, b, e, f⟩ := q
  have ek : ∀ p, mKd m' p = mKd m p := fun p => by unfold mKd; rw [g 2 p (by decide)]
  have es : ∀ p, rSz m' p = rSz m p := fun p => by unfold rSz; rw [ek]
  have en : mPl m' = mPl m := by unfold mPl; rw [g0]
  refine ⟨hi, by rw [h0, g0]; exact b, fun p hp => ?_, fun p q hpq hq => by rw [es]; exact f p q hpq (by rw [← en]; exact hq)⟩
  rw [en] at hp
  obtain ⟨⟨e1, e2, e3, e4, e5, e6, e7, e8, e9⟩, ek5⟩ := e p hp
  rw [ek, es]
  refine ⟨⟨e1, e2, e3, e4, by rw [h _ _ hp, g 2 p (by decide)]; exact e5, by rw [h _ _ hp, g 3 p (by decide)]; exact e6, by rw [h _ _ hp]; exact e7, e8, e9⟩, fun k5 => ?_⟩
  exact ⟨(ek5 k5).1, fun k hk => hr p hp k5 k hk⟩
theorem pl_ne {T : Nat → Nat} {X : zS} {P : zR0} {c m : zI} (h : rPl T X P c m) {p q : Nat} (hp : p < mPl m) (hq : q < mPl m) (hk : mKd m q = 5) : T p ≠ T q + 1 ∧ T p ≠ T q + 2 ∧ (mKd m p = 5 → T p + 1 ≠ T q + 2 ∧ T p + 2 ≠ T q + 1) := by
  by_cases e : p = q
  · subst e; exact ⟨by omega, by omega, fun _ => by omega⟩
  · have := pl_apart h hq hp hk e
    exact ⟨this.1, this.2.1, fun z => ⟨(this.2.2 z).2.2.1, (this.2.2 z).2.1⟩⟩
theorem iPl_same {m m' : zI} (h : iPl m) (h6 : m' 0 6 = m 0 6) (h2 : ∀ k, m' 2 k = m 2 k) (h3 : ∀ k, m' 3 k = m 3 k) (h4 : ∀ k, k < 30 → ∃ g : Nat, g < 32 ∧ m' 4 k = Int32.ofNat g) : iPl m' := by
  obtain ⟨⟨a, b⟩, e, f⟩ := h
  have en : mPl m' = mPl m := by unfold mPl; rw [h6]
  have ek : ∀ p, mKd m' p = mKd m p := fun p => by unfold mKd; rw [h2]
  have ev : ∀ p, mV m' p = mV m p := fun p => by unfold mV; rw [h3]
  refine ⟨⟨by rw [h6, en]; exact a, by rw [en]; exact b⟩, fun p hp => by rw [h2, h3, ek, ev]; exact e p hp, fun k hk => ?_⟩
  obtain ⟨g, g1, g2⟩ := h4 k hk
  have : mTl m' k = g := by unfold mTl; rw [g2, n_cl (by omega)]
  rw [this]; exact ⟨g2, g1⟩
theorem s_image : sI 126 242 [] := by
  intro X fr nx P c lc m lm h
  have h' := h
  obtain ⟨hf, hm, tx, ac, tp, N, T, f, g, i, j⟩ := h'
  have T74 : ∀ p, p < mPl m → 74 ≤ T p := fun p hp => ((i.2.2.1 p hp).1).2.1
  refine TG_I (t_126 (d := 37) i f.1 (fun c' c0 F4 C0 e02 q => t_242 (d := 38) (fun m' M e50 I => ⟨rfl, ?_⟩)))
  obtain ⟨q1, q2⟩ := q
  have low : ∀ x k, x < 74 → c' x k = c0 x k := fun x k hx => q1 x k (fun r hr _ => by have := T74 r hr; omega)
  have C : ∀ x k, ¬ (4 ≤ x ∧ x ≤ 6) → ¬ (x = 0 ∧ k = 2) → x < 74 → c' x k = c x k := fun x k h1 h2 h3 => by rw [low x k h3, C0 x k h1 h2]
  have M0 : ∀ k, k < 50 ∨ 55 < k → m' 0 k = m 0 k := fun k hk => M 0 k (by omega) (by omega) (by decide) (by decide)
  have M1 : ∀ x k, 1 ≤ x → x < 27 → m' x k = m x k := fun x k h1 h2 => M x k (by omega) (by omega) (by omega) (by omega)
  have en : mPl m' = mPl m := by unfold mPl; rw [M0 6 (by decide)]
  refine ⟨hf, iMm_0 (C _ _ (by decide) (by decide) (by decide)) (C _ _ (by decide) (by decide) (by decide)) hm, rTxt_eq (C _ _ (by decide) (by decide) (by decide)) (fun k => C _ _ (by decide) (by omega) (by decide)) (M0 _ (by decide)) (fun k => M1 _ _ (by decide) (by decide)) (fun x k x1 x2 => M1 _ _ (by omega) (by omega)) tx, rAct_eq (fun k => C _ _ (by decide) (by omega) (by decide)) (M0 _ (by decide)) (fun k => M1 _ _ (by decide) (by decide)) ac, rTap_eq (fun k => C _ _ (by decide) (by omega) (by decide)) (fun k => C _ _ (by decide) (by omega) (by decide)) (fun _ _ _ _ => rfl) (fun k => M1 _ _ (by decide) (by decide)) (fun k => M1 _ _ (by decide) (by decide)) (fun _ => rfl) tp, N, T, ?_, ?_, ?_, ?_⟩
  · obtain ⟨f1, f2, f3⟩ := f
    refine ⟨cFul_eq (fun k => C _ _ (by decide) (by omega) (by decide)) (fun k _ => C _ _ (by decide) (by omega) (by decide)) (fun k _ => C _ _ (by decide) (by omega) (by decide)) (fun k hk => M0 _ (by omega)) (fun k _ => M1 _ _ (by decide) (by decide)) (fun k _ => M1 _ _ (by decide) (by decide)) f1, iNw_eq (fun k hk => M0 _ (by omega)) (fun k _ => M1 _ _ (by decide) (by decide)) (fun k _ => M1 _ _ (by decide) (by decide)) f2, ?_⟩
    unfold rHo
    rw [M0 13 (by decide)]
    exact f3
  · obtain ⟨g1, g2, g3, g4, g5⟩ := g
    refine ⟨by rw [C _ _ (by decide) (by decide) (by decide)]; exact g1, by rw [M0 _ (by decide)]; exact g2, g3, fun p hp => ?_, cPa_at (fun x k x1 x2 => C x k (by omega) (by omega) (by omega)) g5⟩
    obtain ⟨cs, w1, w2, w3⟩ := g4 p hp
    exact ⟨cs, w1, xTxt_eq (M1 _ _ (by decide) (by decide)) (fun x k x1 x2 _ _ => M1 _ _ (by omega) (by omega)) (fun k _ _ => M1 _ _ (by decide) (by decide)) w2, cPa_at (fun x k x1 x2 => C x k (by omega) (by omega) (by omega)) w3⟩
  · have hi' : ∀ p k, p < mPl m → c' (T p) k = c (T p) k := fun p k hp => by
      have := T74 p hp
      rw [q1 _ k (fun r hr hk => (pl_ne i hp hr hk).2.1), C0 _ _ (by omega) (by omega)]
    have hr1 : ∀ p, p < mPl m → mKd m p = 5 → ∀ k, c' (T p + 1) k = c (T p + 1) k := fun p hp hk k => by
      have := T74 p hp
      rw [q1 _ k (fun r hr hkr => ((pl_ne i hp hr hkr).2.2 hk).1), C0 _ _ (by omega) (by omega)]
    refine rPl_eq2 (C _ _ (by decide) (by decide) (by decide)) hi' (fun p hp hk k k3 => ?_) (M0 6 (by decide)) (fun x k hx => M1 _ _ (by omega) (by omega)) (iPl_eq (M0 6 (by decide)) (fun x k x1 x2 => M1 _ _ (by omega) (by omega)) i.1) i
    rw [hr1 p hp hk k, M1 4 _ (by decide) (by decide)]
    exact ((i.2.2.1 p hp).2 hk).2 k k3
  · refine .inr ⟨by rw [low 0 2 (by decide), e02], e50, m, cFul_eq (fun k => low _ k (by decide)) (fun k _ => low _ k (by decide)) (fun k _ => low _ k (by decide)) (fun _ _ => rfl) (fun _ _ => rfl) (fun _ _ => rfl) F4, f.2.1, f.2.2, I, ⟨i.1.1.1, by rw [en]; exact Nat.le_refl _⟩, i.1.2.2, fun p hp hk k k3 => ?_⟩
    rw [en] at hp
    have hk' : mKd m p = 5 := by unfold mKd at *; rw [← M1 2 p (by decide) (by decide)]; exact hk
    have := T74 p hp
    rw [q2 p hp hk' k k3, if_pos hp, if_pos hp, C0 _ _ (by omega) (by omega)]
    exact ((i.2.2.1 p hp).2 hk').2 k k3
theorem s_undo : sI 130 243 [] := by
  intro X fr nx P c lc m lm h
  have h' := h
  obtain ⟨hf, hm, tx, ac, tp, N, T, f, g, i, j⟩ := h'
  have T74 : ∀ p, p < mPl m → 74 ≤ T p := fun p hp => ((i.2.2.1 p hp).1).2.1
  rcases j with ⟨j1, j2⟩ | ⟨j1, j2, gm, F4, Ng, Hg, I, ⟨g6, gl6⟩, g4, rows⟩
  · exact TG_I (t_130 (d := 37) (g := m) i (fun _ => t_243 (d := 38) (g := m) (fun _ => ⟨rfl, h⟩) (fun z => absurd j2 z) (fun z => absurd j2 z)) (fun z => absurd j1 z) (fun z => absurd j1 z))
  · have nz : ¬ c 0 2 = 0 := by rw [j1]; decide
    have nz' : ¬ m 0 50 = 0 := by rw [j2]; decide
    have b10 := i.1.1.2
    refine TG_I (t_130 (d := 37) (g := gm) i (fun z => absurd z nz) (fun _ => F4) (fun _ c' c0 F1 C0 q => t_243 (d := 38) (g := gm) (fun z => absurd z nz') (fun _ => ⟨I, g6, by omega⟩) (fun _ m' M a0 a1 a5 a4 => ⟨rfl, ?_⟩)))
    obtain ⟨q1, q2⟩ := q
    have low : ∀ x k, x < 74 → c' x k = c0 x k := fun x k hx => q1 x k (fun r hr _ => by have := T74 r hr; omega)
    have C : ∀ x k, ¬ (1 ≤ x ∧ x ≤ 3) → x < 74 → c' x k = c x k := fun x k h1 h3 => by rw [low x k h3, C0 x k h1]
    have M0 : ∀ k, ¬ (k ≤ 4 ∨ k = 10 ∨ k = 13) → m' 0 k = m 0 k := fun k hk => M 0 k (by omega) (by decide) (by decide) (by decide)
    have M1 : ∀ x k, 2 ≤ x → x ≠ 4 → x ≠ 5 → m' x k = m x k := fun x k h1 h2 h3 => M x k (by omega) (by omega) h2 h3
    have en : mPl m' = mPl m := by unfold mPl; rw [M0 6 (by decide)]
    have ek : ∀ p, mKd m' p = mKd m p := fun p => by unfold mKd; rw [M1 2 p (by decide) (by decide) (by decide)]
    refine ⟨hf, iMm_0 (C _ _ (by decide) (by decide)) (C _ _ (by decide) (by decide)) hm, rTxt_eq (C _ _ (by decide) (by decide)) (fun k => C _ _ (by decide) (by decide)) (M0 _ (by decide)) (fun k => M1 _ _ (by decide) (by decide) (by decide)) (fun x k x1 x2 => M1 _ _ (by omega) (by omega) (by omega)) tx, rAct_eq (fun k => C _ _ (by decide) (by decide)) (M0 _ (by decide)) (fun k => M1 _ _ (by decide) (by decide) (by decide)) ac, rTap_eq (fun k => C _ _ (by decide) (by decide)) (fun k => C _ _ (by decide) (by decide)) (fun _ _ _ _ => rfl) (fun k => M1 _ _ (by decide) (by decide) (by decide)) (fun k => M1 _ _ (by decide) (by decide) (by decide)) (fun _ => rfl) tp, N, T, ?_, ?_, ?_, ?_⟩
    · refine ⟨cFul_eq (fun k => low _ k (by decide)) (fun k _ => low _ k (by decide)) (fun k _ => low _ k (by decide)) (fun k hk => a0 k hk) (fun k hk => a1 k hk) (fun k hk => a5 k hk) F1, iNw_eq (fun k hk => a0 k (by omega)) a1 a5 Ng, ?_⟩
      unfold rHo
      rw [a0 13 (by decide)]
      exact Hg
    · obtain ⟨g1, g2, g3, g4', g5⟩ := g
      refine ⟨by rw [C _ _ (by decide) (by decide)]; exact g1, by rw [M0 _ (by decide)]; exact g2, g3, fun p hp => ?_, cPa_at (fun x k x1 x2 => C x k (by omega) (by omega)) g5⟩
      obtain ⟨cs, w1, w2, w3⟩ := g4' p hp
      exact ⟨cs, w1, xTxt_eq (M1 _ _ (by decide) (by decide) (by decide)) (fun x k x1 x2 _ _ => M1 _ _ (by omega) (by omega) (by omega)) (fun k _ _ => M1 _ _ (by decide) (by decide) (by decide)) w2, cPa_at (fun x k x1 x2 => C x k (by omega) (by omega)) w3⟩
    · have hi' : ∀ p k, p < mPl m → c' (T p) k = c (T p) k := fun p k hp => by
        have := T74 p hp
        rw [q1 _ k (fun r hr hk => (pl_ne i hp hr hk).1), C0 _ _ (by omega)]
      refine rPl_eq2 (C _ _ (by decide) (by decide)) hi' (fun p hp hk k k3 => ?_) (M0 6 (by decide)) (fun x k hx => M1 _ _ (by omega) (by omega) (by omega)) (iPl_same i.1 (M0 6 (by decide)) (fun k => M1 _ _ (by decide) (by decide) (by decide)) (fun k => M1 _ _ (by decide) (by decide) (by decide)) (fun k hk => ?_)) i
      · have := T74 p hp
        rw [q2 p hp hk k k3, if_pos hp, C0 _ _ (by omega), rows p hp hk k k3, a4 _ (by omega)]
        by_cases w : p < mPl gm
        · rw [if_pos w, if_pos (by omega)]
        · rw [if_neg w, if_neg (by omega)]
      · rw [a4 k hk]
        by_cases w : k < 3 * mPl gm
        · rw [if_pos w]; exact ⟨_, (g4 k hk).2, (g4 k hk).1⟩
        · rw [if_neg w]; exact ⟨0, by decide, rfl⟩
    · refine .inr ⟨by rw [C _ _ (by decide) (by decide)]; exact j1, by rw [M0 _ (by decide)]; exact j2, gm, cFul_eq (fun k => C _ k (by decide) (by decide)) (fun k _ => C _ k (by decide) (by decide)) (fun k _ => C _ k (by decide) (by decide)) (fun _ _ => rfl) (fun _ _ => rfl) (fun _ _ => rfl) F4, Ng, Hg, ?_, ⟨g6, by rw [en]; exact gl6⟩, g4, fun p hp hk k k3 => ?_⟩
      · obtain ⟨s1, s2, s3, s4, s5, s6, s7, s8⟩ := I
        exact ⟨by rw [M0 51 (by decide)]; exact s1, by rw [M0 52 (by decide)]; exact s2, by rw [M0 53 (by decide)]; exact s3, by rw [M0 54 (by decide)]; exact s4, by rw [M0 55 (by decide)]; exact s5, mSlot_m (fun k _ _ => M1 _ _ (by decide) (by decide) (by decide)) s6, fun k hk => by rw [M1 31 k (by decide) (by decide) (by decide)]; exact s7 k hk, fun k hk => by rw [M1 32 k (by decide) (by decide) (by decide)]; exact s8 k hk⟩
      · rw [en] at hp
        rw [ek] at hk
        have := T74 p hp
        rw [q1 _ k (fun r hr hkr => ((pl_ne i hp hr hkr).2.2 hk).2), C0 _ _ (by omega)]
        exact rows p hp hk k k3
