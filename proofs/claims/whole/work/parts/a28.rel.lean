/-! How class and reference stand to each other. -/
/-- what is now, of a memory of the model -/
def iNw (m : zI) : Prop := iP m ∧ iB m ∧ iW m ∧ iCr 9999 m ∧ iWt m ∧ iBk m ∧ ∀ k, sTri (mPe m) ≤ k → k < 10 → m 1 k = -1
theorem iNw_eq {m m' : zI} (h0 : ∀ k, k < 5 ∨ k = 10 → m' 0 k = m 0 k) (h1 : ∀ k, k < 10 → m' 1 k = m 1 k) (h5 : ∀ k, k < 12 → m' 5 k = m 5 k) (q : iNw m) : iNw m' := by
  obtain ⟨a, b, c, d, e, f, g⟩ := q
  have e0 := h0 0 (.inl (by decide))
  have e1 := h0 1 (.inl (by decide))
  have e2 := h0 2 (.inl (by decide))
  have e3 := h0 3 (.inl (by decide))
  have e4 := h0 4 (.inl (by decide))
  have ep : mPe m' = mPe m := by unfold mPe; rw [e0]
  have ew : mW m' = mW m := by unfold mW; rw [e1]
  have ec : mCr m' = mCr m := by unfold mCr; rw [e4]
  have en : mWn m' = mWn m := by unfold mWn; rw [e2, ep]
  refine ⟨?_, ?_, ?_, ?_, ?_, iBk_eq (h0 10 (.inr rfl)) h5 f, fun k h k10 => ?_⟩
  · obtain ⟨p, p1, p2⟩ := a
    exact ⟨p, p1, by rw [e0]; exact p2⟩
  · unfold iB; rw [e3]; exact b
  · unfold iW; rw [e1, ew, ep]; exact c
  · unfold iCr; rw [e4, ec]; exact d
  · unfold iWt; rw [e2, en, ep]; exact e
  · rw [h1 k k10]; exact g k (by rw [← ep]; exact h) k10
def rHo (N : Nat) (m : zI) : Prop := m 0 13 = -1 ∨ ∃ p, p < N ∧ m 0 13 = Int32.ofNat p
theorem cFul_eq {t : Nat} {c c' m m' : zI} (h : ∀ k, c' t k = c t k) (h1 : ∀ k, k < 10 → c' (t + 1) k = c (t + 1) k) (h2 : ∀ k, k < 12 → c' (t + 2) k = c (t + 2) k) (g0 : ∀ k, k < 5 ∨ k = 10 ∨ k = 13 → m' 0 k = m 0 k) (g1 : ∀ k, k < 10 → m' 1 k = m 1 k) (g5 : ∀ k, k < 12 → m' 5 k = m 5 k) (q : cFul t c m) : cFul t c' m' := by
  obtain ⟨a, b, e, f⟩ := q
  exact ⟨cSc_eq (fun k _ => h k) h1 (cSc_m (fun k hk => g0 k (.inl hk)) g1 a), by rw [h, g0 13 (by decide)]; exact b, by rw [h, g0 10 (by decide)]; exact e, fun k hk => by rw [h2 k hk, g5 k hk]; exact f k hk⟩
/-- now -/
def rNow (N : Nat) (c m : zI) : Prop := cFul 1 c m ∧ iNw m ∧ rHo N m
/-- the parishes -/
def rPar (N : Nat) (c m : zI) : Prop := c 0 8 = Int32.ofNat N ∧ m 0 12 = Int32.ofNat N ∧ N ≤ 6 ∧ (∀ p, p < N → ∃ cs, iCs cs ∧ xTxt m p cs ∧ cPa (44 + 5 * p) c cs) ∧ cPa 27 c []
theorem xTxt_eq {m m' : zI} {p : Nat} {cs : List pCl} (h6 : m' 6 p = m 6 p) (h7 : ∀ c k, 7 ≤ c → c ≤ 10 → 10 * p ≤ k → k < 10 * p + 10 → m' c k = m c k) (h11 : ∀ k, 120 * p ≤ k → k < 120 * p + 120 → m' 11 k = m 11 k) (q : xTxt m p cs) : xTxt m' p cs := by
  obtain ⟨a, b, c, d, e⟩ := q
  refine ⟨by rw [h6]; exact a, b, xCs_eq cs 0 0 (fun c k x y z w => h7 c k x y (by omega) (by omega)) c, ?_, e⟩
  refine mCodes_mv (a := 120 * p) (b := 120 * p) (aTk cs) 0 (fun i _ hi => h11 _ (by omega) (by omega)) d
theorem cPa_at {c c' : zI} {t : Nat} {cs : List pCl} (h : ∀ x k, t ≤ x → x < t + 4 → c' x k = c x k) (q : cPa t c cs) : cPa t c' cs :=
  cPa_eq (fun k => h _ k (by omega) (by omega)) (fun k => h _ k (by omega) (by omega)) (fun k => h _ k (by omega) (by omega)) (fun k => h _ k (by omega) (by omega)) q
/-- plan p's cells: T p it, behind it, of a told one, its row and the row as the image has it -/
def rSz (m : zI) (p : Nat) : Nat := if mKd m p = 5 then 3 else 1
def rPl (T : Nat → Nat) (X : zS) (P : zR0) (c m : zI) : Prop :=
  iPl m ∧ c 0 10 = m 0 6 ∧ (∀ p, p < mPl m → (P 33 p = T p + 1 ∧ 74 ≤ T p ∧ zk (zCS ++ X) (T p) = zKd (mKd m p) ∧ zn (zCS ++ X) (T p) = (if mKd m p = 5 then 6 else 4) ∧ c (T p) 0 = m 2 p ∧ c (T p) 1 = m 3 p ∧ c (T p) 2 = Int32.ofNat p ∧ P (T p) 3 = 35 ∧ T p + rSz m p ≤ 74 + X.length) ∧
    (mKd m p = 5 → (P (T p) 4 = T p + 2 ∧ P (T p) 5 = T p + 3 ∧ zk (zCS ++ X) (T p + 1) = 100 ∧ zn (zCS ++ X) (T p + 1) = 3 ∧ zk (zCS ++ X) (T p + 2) = 100 ∧ zn (zCS ++ X) (T p + 2) = 3) ∧ ∀ k, k < 3 → c (T p + 1) k = m 4 (3 * p + k))) ∧
  ∀ p q, p < q → q < mPl m → T p + rSz m p ≤ T q
theorem rPl_eq {T : Nat → Nat} {X : zS} {P : zR0} {c c' m m' : zI} (h0 : c' 0 10 = c 0 10) (h : ∀ x k, 74 ≤ x → c' x k = c x k) (g0 : m' 0 6 = m 0 6) (g : ∀ x k, 2 ≤ x → x < 5 → m' x k = m x k) (q : rPl T X P c m) : rPl T X P c' m' := by
  obtain ⟨a, b, e, f⟩ := q
  have ek : ∀ p, mKd m' p = mKd m p := fun p => by unfold mKd; rw [g 2 p (by decide) (by decide)]
  have es : ∀ p, rSz m' p = rSz m p := fun p => by unfold rSz; rw [ek]
  have en : mPl m' = mPl m := by unfold mPl; rw [g0]
  refine ⟨iPl_eq g0 g a, by rw [h0, g0]; exact b, fun p hp => ?_, fun p q hpq hq => by rw [es]; exact f p q hpq (by rw [← en]; exact hq)⟩
  obtain ⟨⟨e1, e2, e3, e4, e5, e6, e7, e8, e9⟩, ek5⟩ := e p (by rw [← en]; exact hp)
  rw [ek, es]
  refine ⟨⟨e1, e2, e3, e4, by rw [h _ _ e2, g 2 p (by decide) (by decide)]; exact e5, by rw [h _ _ e2, g 3 p (by decide) (by decide)]; exact e6, by rw [h _ _ e2]; exact e7, e8, e9⟩, fun k5 => ?_⟩
  obtain ⟨r1, r2⟩ := ek5 k5
  exact ⟨r1, fun k hk => by rw [h _ _ (by omega), g 4 _ (by decide) (by decide)]; exact r2 k hk⟩
/-- what the reference keeps of an image g -/
def mIm (g m : zI) : Prop := m 0 51 = g 0 0 ∧ m 0 52 = g 0 2 ∧ m 0 53 = g 0 6 ∧ m 0 54 = g 0 10 ∧ m 0 55 = g 0 13 ∧ mSlot 3 g m ∧ (∀ k, k < 30 → m 31 k = g 4 k) ∧ ∀ k, k < 12 → m 32 k = g 5 k
/-- the image -/
def rImg (N : Nat) (T : Nat → Nat) (c m : zI) : Prop :=
  (c 0 2 = 0 ∧ m 0 50 = 0) ∨ (c 0 2 = 1 ∧ m 0 50 = 1 ∧ ∃ g, cFul 4 c g ∧ iNw g ∧ rHo N g ∧ mIm g m ∧ (g 0 6 = Int32.ofNat (mPl g) ∧ mPl g ≤ mPl m) ∧ (∀ k, k < 30 → g 4 k = Int32.ofNat (mTl g k) ∧ mTl g k < 32) ∧ ∀ p, p < mPl m → mKd m p = 5 → ∀ k, k < 3 → c (T p + 2) k = if p < mPl g then g 4 (3 * p + k) else 0)
theorem mSlot_m {s : Nat} {g m m' : zI} (h : ∀ k, 14 * s ≤ k → k < 14 * s + 13 → m' 27 k = m 27 k) (q : mSlot s g m) : mSlot s g m' := by
  obtain ⟨a, b, c, d⟩ := q
  exact ⟨by rw [h _ (by omega) (by omega)]; exact a, by rw [h _ (by omega) (by omega)]; exact b, by rw [h _ (by omega) (by omega)]; exact c, fun k hk => by rw [h _ (by omega) (by omega)]; exact d k hk⟩
theorem rImg_eq {N N' : Nat} {T : Nat → Nat} {c c' m m' : zI} (hN : N ≤ N') (h2 : c' 0 2 = c 0 2) (h4 : ∀ x k, 4 ≤ x → x ≤ 6 → c' x k = c x k) (hr : ∀ p k, p < mPl m → mKd m p = 5 → k < 3 → c' (T p + 2) k = c (T p + 2) k) (g0 : ∀ k, k = 6 ∨ (50 ≤ k ∧ k ≤ 55) → m' 0 k = m 0 k) (g27 : ∀ k, 42 ≤ k → m' 27 k = m 27 k) (g31 : ∀ x k, x = 31 ∨ x = 32 → m' x k = m x k) (gk : ∀ p, m' 2 p = m 2 p) (q : rImg N T c m) : rImg N' T c' m' := by
  have en : mPl m' = mPl m := by unfold mPl; rw [g0 6 (by decide)]
  have ek : ∀ p, mKd m' p = mKd m p := fun p => by unfold mKd; rw [gk]
  rcases q with ⟨a, b⟩ | ⟨a, b, g, q1, q2, q3, q4, q5, q6, q7⟩
  · exact .inl ⟨by rw [h2]; exact a, by rw [g0 50 (by decide)]; exact b⟩
  · refine .inr ⟨by rw [h2]; exact a, by rw [g0 50 (by decide)]; exact b, g, cFul_eq (fun k => h4 _ k (by decide) (by decide)) (fun k _ => h4 _ k (by decide) (by decide)) (fun k _ => h4 _ k (by decide) (by decide)) (fun _ _ => rfl) (fun _ _ => rfl) (fun _ _ => rfl) q1, q2, ?_, ?_, by rw [en]; exact q5, q6, fun p hp hk k k3 => ?_⟩
    · rcases q3 with w | ⟨p, w1, w2⟩
      · exact .inl w
      · exact .inr ⟨p, by omega, w2⟩
    · obtain ⟨s1, s2, s3, s4, s5, s6, s7, s8⟩ := q4
      exact ⟨by rw [g0 51 (by decide)]; exact s1, by rw [g0 52 (by decide)]; exact s2, by rw [g0 53 (by decide)]; exact s3, by rw [g0 54 (by decide)]; exact s4, by rw [g0 55 (by decide)]; exact s5, mSlot_m (fun k a _ => g27 k (by omega)) s6, fun k hk => by rw [g31 _ _ (.inl rfl)]; exact s7 k hk, fun k hk => by rw [g31 _ _ (.inr rfl)]; exact s8 k hk⟩
    · rw [en] at hp
      rw [ek] at hk
      rw [hr p k hp hk k3]; exact q7 p hp hk k k3
/-- the text that is fed -/
def rTxt (c m : zI) : Prop := iWd m ∧ ∃ L, xL m L ∧ rL c L
theorem rTxt_eq {c c' m m' : zI} (h1 : c' 25 1 = c 25 1) (h : ∀ k, c' 26 k = c 26 k) (g21 : m' 0 21 = m 0 21) (g12 : ∀ k, m' 12 k = m 12 k) (gw : ∀ x k, 17 ≤ x → x ≤ 19 → m' x k = m x k) (q : rTxt c m) : rTxt c' m' := by
  obtain ⟨⟨w1, w2, w3⟩, L, ⟨a, b, e⟩, ⟨_, f, g⟩⟩ := q
  exact ⟨⟨fun k hk => by rw [gw 17 k (by decide) (by decide)]; exact w1 k hk, fun k hk => by rw [gw 18 k (by decide) (by decide)]; exact w2 k hk, fun k hk => by rw [gw 19 k (by decide) (by decide)]; exact w3 k hk⟩, L, ⟨a, by rw [g21]; exact b, fun i hi => by rw [g12]; exact e i hi⟩, ⟨a, by rw [h1]; exact f, fun i hi => by rw [h]; exact g i hi⟩⟩
/-- the bodies that ran -/
def rAct (c m : zI) : Prop := ∃ l, l.length ≤ 20 ∧ cTr c l ∧ mTrc m l
theorem rAct_eq {c c' m m' : zI} (h : ∀ k, c' 34 k = c 34 k) (g0 : m' 0 22 = m 0 22) (g : ∀ k, m' 13 k = m 13 k) (q : rAct c m) : rAct c' m' := by
  obtain ⟨l, a, ⟨b, b2⟩, e, e2⟩ := q
  exact ⟨l, a, ⟨by rw [h]; exact b, fun j x y => by rw [h]; exact b2 j x y⟩, by rw [g0]; exact e, fun j x y => by rw [g]; exact e2 j x y⟩
/-- the tapes -/
def rTap (c : zI) (lc : zJ) (m : zI) (lm : zJ) : Prop := cTp c lc m lm ∧ iTp m
theorem rTap_eq {c c' m m' : zI} {lc lc' lm lm' : zJ} (h : ∀ k, c' 42 k = c 42 k) (h2 : ∀ k, c' 43 k = c 43 k) (h3 : ∀ x k, 36 ≤ x → x < 42 → lc' x k = lc x k) (g : ∀ k, m' 14 k = m 14 k) (g2 : ∀ k, m' 15 k = m 15 k) (g3 : ∀ k, lm' 16 k = lm 16 k) (q : rTap c lc m lm) : rTap c' lc' m' lm' := by
  obtain ⟨a, b⟩ := q
  have es : ∀ t, mSz m' t = mSz m t := fun t => by unfold mSz; rw [g2]
  refine ⟨fun t ht => ⟨by rw [h, g]; exact (a t ht).1, by rw [h2, g2]; exact (a t ht).2.1, fun k hk => by rw [h3 _ _ (by omega) (by omega), g3]; exact (a t ht).2.2 k hk⟩, fun t ht => ?_⟩
  rw [g, g2, es]; exact b t ht
/-- class and reference -/
def Rl (X : zS) (fr nx : Nat) (P : zR0) (c : zI) (lc : zJ) (m : zI) (lm : zJ) : Prop := iFN fr nx ∧ iMm c lc ∧ rTxt c m ∧ rAct c m ∧ rTap c lc m lm ∧ ∃ N T, rNow N c m ∧ rPar N c m ∧ rPl T X P c m ∧ rImg N T c m
/-- what calls may leave in the class -/
def fC (c : zI) (lc : zJ) (c' : zI) (lc' : zJ) : Prop := (∀ x k, ¬ (8 ≤ x ∧ x ≤ 24) → ¬ iVal x → c' x k = c x k) ∧ ∀ x k, x ≠ 18 → lc' x k = lc x k
theorem fC_rfl (c : zI) (lc : zJ) : fC c lc c lc := ⟨fun _ _ _ _ => rfl, fun _ _ _ => rfl⟩
theorem fC_M {c c' : zI} {lc lc' : zJ} (h : mM c lc c' lc') : fC c lc c' lc' := ⟨fun x k z _ => h.1 x k (by omega), h.2⟩
theorem fC_R {c c' : zI} {lc lc' : zJ} (h : fRun c lc c' lc') : fC c lc c' lc' := ⟨fun x k z w => h.1 x k (by omega) (by omega) (by omega) w, h.2⟩
theorem fC_L {c c' : zI} {lc : zJ} (h : fLv 0 c c') : fC c lc c' lc := ⟨fun x k z _ => h x k (by omega), fun _ _ _ => rfl⟩
theorem fC_S {c c' : zI} {lc : zJ} (h : fSr c c') : fC c lc c' lc := ⟨fun x k z _ => h x k (by omega) (by omega) (by omega) (by omega) (by omega) (by omega), fun _ _ _ => rfl⟩
theorem val_pa {p x : Nat} (hp : p < 6) (h : x = 27 ∨ x = 28 ∨ x = 29 ∨ x = 30 ∨ (44 + 5 * p ≤ x ∧ x < 44 + 5 * p + 4)) : ¬ iVal x := by unfold iVal; omega
/-- a call that only looks -/
theorem rl_q {X : zS} {fr nx fr' nx' : Nat} {P : zR0} {c c' m m' : zI} {lc lc' lm lm' : zJ} (h : Rl X fr nx P c lc m lm) (hf : iFN fr' nx') (hm : iMm c' lc') (hc : fC c lc c' lc') (ht : mT m m') (hl : ∀ k, lm' 16 k = lm 16 k) : Rl X fr' nx' P c' lc' m' lm' := by
  obtain ⟨-, -, a, b, e, N, T, f, g, i, j⟩ := h
  obtain ⟨h1, h2⟩ := hc
  have nv : ∀ x, x < 27 ∨ (32 ≤ x ∧ x < 44) ∨ 74 ≤ x → ¬ iVal x := fun x hx => by unfold iVal; omega
  have C : ∀ x k, x < 8 ∨ x = 25 ∨ x = 26 ∨ (32 ≤ x ∧ x < 44) ∨ 74 ≤ x → c' x k = c x k := fun x k hx => h1 x k (by omega) (nv x (by omega))
  have M0 : ∀ k, k < 30 ∨ 50 ≤ k → m' 0 k = m 0 k := fun k hk => ht.f (by unfold mScr; simp only [List.mem_cons, List.not_mem_nil, or_false]; omega)
  have M : ∀ x k, (1 ≤ x ∧ x < 20) ∨ x = 31 ∨ x = 32 → m' x k = m x k := fun x k hx => ht.at (by simp only [List.mem_cons, List.not_mem_nil, or_false]; omega)
  refine ⟨hf, hm, rTxt_eq (C _ _ (by decide)) (fun k => C _ _ (by decide)) (M0 _ (by decide)) (fun k => M _ _ (by decide)) (fun x k x1 x2 => M _ _ (by omega)) a, rAct_eq (fun k => C _ _ (by decide)) (M0 _ (by decide)) (fun k => M _ _ (by decide)) b, rTap_eq (fun k => C _ _ (by decide)) (fun k => C _ _ (by decide)) (fun x k x1 x2 => h2 x k (by omega)) (fun k => M _ _ (by decide)) (fun k => M _ _ (by decide)) hl e, N, T, ?_, ?_, rPl_eq (C _ _ (by decide)) (fun x k hx => C _ _ (by omega)) (M0 _ (by decide)) (fun x k x1 x2 => M _ _ (by omega)) i, ?_⟩
  · obtain ⟨f1, f2, f3⟩ := f
    refine ⟨cFul_eq (fun k => C _ _ (by decide)) (fun k _ => C _ _ (by decide)) (fun k _ => C _ _ (by decide)) (fun k hk => M0 _ (by omega)) (fun k _ => M _ _ (by decide)) (fun k _ => M _ _ (by decide)) f1, iNw_eq (fun k hk => M0 _ (by omega)) (fun k _ => M _ _ (by decide)) (fun k _ => M _ _ (by decide)) f2, ?_⟩
    unfold rHo
    rw [M0 13 (by decide)]
    exact f3
  · obtain ⟨g1, g2, g3, g4, g5⟩ := g
    refine ⟨by rw [C _ _ (by decide)]; exact g1, by rw [M0 _ (by decide)]; exact g2, g3, fun p hp => ?_, cPa_at (fun x k x1 x2 => h1 x k (by omega) (val_pa (p := 0) (by decide) (by omega))) g5⟩
    obtain ⟨cs, w1, w2, w3⟩ := g4 p hp
    exact ⟨cs, w1, xTxt_eq (M _ _ (by decide)) (fun x k x1 x2 _ _ => M _ _ (by omega)) (fun k _ _ => M _ _ (by decide)) w2, cPa_at (fun x k x1 x2 => h1 x k (by omega) (val_pa (p := p) (by omega) (by omega))) w3⟩
  · refine rImg_eq (Nat.le_refl _) (C _ _ (by decide)) (fun x k x1 x2 => C _ _ (by omega)) (fun p k hp hk k3 => C _ _ ?_) (fun k hk => M0 _ (by omega)) (fun k hk => ht.i hk) (fun x k hx => M _ _ (by omega)) (fun p => M _ _ (by decide)) j
    have := ((i.2.2.1 p hp).1).2.1
    omega
/-- the rules that hold now -/
theorem rl_now {X : zS} {fr nx : Nat} {P : zR0} {c m : zI} {lc lm : zJ} (h : Rl X fr nx P c lc m lm) : ∃ cs, iA 9999 m (tkOf cs) ∧ cRu c m cs ∧ cFul 1 c m ∧ iNw m ∧ iMm c lc ∧ iFN fr nx := by
  obtain ⟨h1, h2, -, -, -, N, T, f, g, i, -⟩ := h
  obtain ⟨f1, f2, f3⟩ := f
  obtain ⟨g1, g2, g3, g4, g5⟩ := g
  have key : ∃ cs, iHold m cs ∧ iCs cs ∧ cPa (ruC m) c cs := by
    rcases f3 with w | ⟨p, w1, w2⟩
    · refine ⟨[], .inl ⟨w, rfl⟩, fun x hx => absurd hx List.not_mem_nil, ?_⟩
      have : ruC m = 27 := by unfold ruC; rw [if_pos w]
      rw [this]; exact g5
    · obtain ⟨cs, v1, v2, v3⟩ := g4 p w1
      refine ⟨cs, .inr ⟨p, by omega, w2, v2⟩, v1, ?_⟩
      have ep : mP m = p := by unfold mP; rw [w2, n_cl (by omega)]
      have : ruC m = 44 + 5 * p := by unfold ruC; rw [if_neg (by rw [w2]; exact n_ne1 (by omega)), ep]
      rw [this]; exact v3
  obtain ⟨cs, k1, k2, k3⟩ := key
  have hf2 := f2
  obtain ⟨s1, s2, s3, s4, s5, s6, s7⟩ := f2
  exact ⟨cs, ⟨(hold_N k1).1, s1, hold_T k1 k2, s2, s3, i.1, s4⟩, ⟨f1.2.1, k1, k2, k3⟩, f1, hf2, h2, h1⟩
theorem zCR_P {fr nx c k : Nat} {P : zR0} (h : 74 ≤ c) : zCR fr nx P c k = P c k := by
  have e : Nat.ble 74 c = true := Nat.ble_eq_true_of_le h
  unfold zCR
  rw [e]
  rfl
/-- the plans, as the contracts have them -/
theorem rl_pls {T : Nat → Nat} {X : zS} {fr nx : Nat} {P : zR0} {c m : zI} (h : rPl T X P c m) : cPls X fr nx P c m := by
  obtain ⟨a, b, e, f⟩ := h
  refine ⟨b, fun p hp => ⟨T p, ((e p hp).1).1, ?_⟩⟩
  obtain ⟨⟨e1, e2, e3, e4, e5, e6, e7, e8, e9⟩, k5⟩ := e p hp
  refine ⟨e2, e3, e4, e5, e6, e7, fun q => ?_⟩
  obtain ⟨⟨r1, r2, r3, r4, r5, r6⟩, r7⟩ := k5 q
  exact ⟨T p + 1, by omega, by rw [zCR_P e2]; exact r1, r3, r4, r7⟩
theorem rl_ac {T : Nat → Nat} {X : zS} {fr nx : Nat} {P : zR0} {c m : zI} (h : rPl T X P c m) {p : Nat} (hp : p < mPl m) : cAc X fr nx P (T p) p (mKd m p) (m 3 p) c := by
  obtain ⟨a, b, e, f⟩ := h
  obtain ⟨⟨e1, e2, e3, e4, e5, e6, e7, e8, e9⟩, k5⟩ := e p hp
  refine ⟨e2, e3, (a.2.1 p (by have := a.1.2; omega)).1.2, by rw [e4]; split <;> omega, by rw [zCR_P e2]; exact e8, e6, e7⟩
