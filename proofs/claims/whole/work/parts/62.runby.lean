/-! The model: run, by; what is laid back. -/
/-- the same but for scratch and for where all is -/
def mQ (m m' : zI) : Prop := ∀ c k, c ∉ [20, 21, 22, 23, 24, 25, 26, 28, 29, 30] → ¬ (c = 0 ∧ k ∈ mScr) → ¬ (c = 27 ∧ k < 42) → ¬ (c = 1 ∧ k < 10) → ¬ (c = 0 ∧ (k = 1 ∨ k = 3 ∨ k = 4)) → m' c k = m c k
theorem mT.q {m m' : zI} (h : mT m m') : mQ m m' := fun c k a b e _ _ => h c k a b e
theorem mQ.trans {m m' m'' : zI} (h : mQ m m') (h' : mQ m' m'') : mQ m m'' := fun c k a b e f g => by rw [h' c k a b e f g, h c k a b e f g]
theorem mGo_q (m : zI) (g : Nat) : mQ m (mGo m g) := by
  intro c k a b e f i
  unfold mGo
  by_cases h1 : c = 1
  · subst h1; rw [if_pos rfl, if_neg (fun q => f ⟨rfl, q.1⟩)]
  · rw [if_neg h1]
    by_cases h0 : c = 0
    · subst h0; rw [if_pos rfl, if_neg (fun q => i ⟨rfl, .inl q⟩), if_neg (fun q => i ⟨rfl, .inr (.inl q)⟩), if_neg (fun q => i ⟨rfl, .inr (.inr q)⟩)]
    · rw [if_neg h0]
theorem mRun_q (p : Nat) : ∀ n m, mQ m (mRun p n m)
  | 0, m => mT.rfl.q
  | n + 1, m => by
    rw [mRun]
    split
    · exact mT.rfl.q
    · exact (mGo_q m _).trans (mRun_q p n _)
/-- what is laid back is as it was -/
theorem mBack {m m2 m3 : zI} {s : Nat} (hq : mQ m m2) (h1 : mSlot s m m2) (h2 : mSlot s m3 m2) (h3 : ∀ c k, ¬ (c = 1 ∧ k < 10) → ¬ (c = 0 ∧ (k = 1 ∨ k = 3 ∨ k = 4)) → m3 c k = m2 c k) : mT m m3 := by
  intro c k a b e
  by_cases h : c = 1 ∧ k < 10
  · obtain ⟨rfl, hk⟩ := h
    rw [← h1.2.2.2 k hk, ← h2.2.2.2 k hk]
  by_cases h' : c = 0 ∧ (k = 1 ∨ k = 3 ∨ k = 4)
  · obtain ⟨rfl, hk⟩ := h'
    rcases hk with rfl | rfl | rfl
    · rw [← h1.1, ← h2.1]
    · rw [← h1.2.1, ← h2.2.1]
    · rw [← h1.2.2.1, ← h2.2.2.1]
  · rw [h3 c k h h']; exact hq c k a b e h h'
theorem iA_run {tk : Nat → List Nat} {p : Nat} (hp : p < 10) : ∀ (k n : Nat) (m : zI), n + k ≤ 100000 → iA n m tk → iL m tk → iA (n + k) (mRun p k m) tk ∧ iL (mRun p k m) tk
  | 0, n, m, _, hA, hL => ⟨hA, hL⟩
  | k + 1, n, m, hn, hA, hL => by
    rw [mRun]
    split
    · obtain ⟨a, b, c, e, f, g, i, j⟩ := hA
      exact ⟨⟨a, b, c, e, f, g, i, by omega⟩, hL⟩
    · rename_i h0
      have := iA_run hp k (n + 1) _ (by omega) (iA_go (by omega) (mTk_lt hA hL hp h0).2.1 hA) (iL_go (mTk m p) hL)
      rw [show n + (k + 1) = n + 1 + k by omega]; exact this
theorem mRun_e {tk : Nat → List Nat} {p : Nat} (hp : p < 10) : ∀ (k n : Nat) (m m' : zI), n + k ≤ 100000 → iA n m tk → iL m tk → mE m m' → mE (mRun p k m) (mRun p k m') ∧ mRunN p k m' = mRunN p k m ∧ mRunW tk p k m' = mRunW tk p k m
  | 0, n, m, m', _, hA, hL, hE => ⟨hE, rfl, rfl⟩
  | k + 1, n, m, m', hn, hA, hL, hE => by
    obtain ⟨t1, t2⟩ := iPl_t hA hp
    have e := mTk_e hE t2
    rw [mRun, mRun, mRunN, mRunN, mRunW, mRunW, e]
    by_cases h0 : mTk m p = 0
    · rw [if_pos h0, if_pos h0, if_pos h0, if_pos h0, if_pos h0, if_pos h0]; exact ⟨hE, rfl, rfl⟩
    · rw [if_neg h0, if_neg h0, if_neg h0, if_neg h0, if_neg h0, if_neg h0]
      obtain ⟨q1, q2, q3⟩ := mRun_e hp k (n + 1) _ _ (by omega) (iA_go (by omega) (mTk_lt hA hL hp h0).2.1 hA) (iL_go (mTk m p) hL) (mGo_e hE (mTk m p))
      rw [q2, q3, mWor_s hE.s]
      exact ⟨q1, rfl, rfl⟩
theorem n_lep {a : Int32} {n : Nat} (hn : n < 1000) : a ≤ Int32.ofNat n - 1 ↔ a < Int32.ofNat n := by
  cases n with
  | zero =>
    have e : (Int32.ofNat 0 - 1).toInt = -1 := by decide
    have e0 : (Int32.ofNat 0).toInt = 0 := by decide
    rw [Int32.le_iff_toInt_le, Int32.lt_iff_toInt_lt, e, e0]; omega
  | succ n =>
    rw [n_pred, Int32.le_iff_toInt_le, Int32.lt_iff_toInt_lt, n_int (by omega), n_int (by omega)]; omega
abbrev mIsP (m : zI) (a : Int32) : Prop := 0 ≤ a ∧ a < m 0 6
theorem mIsP_nat {m : zI} (h : iPl m) {a : Int32} (q : mIsP m a) : ∃ p : Nat, p < 10 ∧ p < mPl m ∧ a = Int32.ofNat p ∧ a.toNatClampNeg = p := by
  obtain ⟨p, hp, rfl⟩ := n_nat (Int32.not_lt.mpr q.1)
  have h2 := q.2
  have := h.1.2
  rw [h.1.1, n_lt hp (by omega)] at h2
  exact ⟨p, by omega, h2, rfl, n_cl (by omega)⟩
/-- what run answers -/
def aRun (m : zI) (tk : Nat → List Nat) (a b c : Int32) : Int32 :=
  if ¬ (mIsP m a ∧ 0 ≤ c ∧ c ≤ 3) then -10001 else if ¬ (0 ≤ b ∧ b ≤ 40) then -10002
  else if c = 0 then Int32.ofNat (mRunN a.toNatClampNeg b.toNatClampNeg (mLook m tk))
  else if c = 1 then mRun a.toNatClampNeg b.toNatClampNeg (mLook m tk) 0 1
  else if c = 2 then mRunW tk a.toNatClampNeg b.toNatClampNeg (mLook m tk)
  else mRun a.toNatClampNeg b.toNatClampNeg (mLook m tk) 0 3
def aBy (m : zI) (tk : Nat → List Nat) (a b : Int32) : Int32 :=
  if ¬ (mIsP m a ∧ 0 ≤ b ∧ b ≤ 2) then -1 else if b = 0 then m 2 a.toNatClampNeg else if b = 1 then m 3 a.toNatClampNeg else aNone (mTk (mLook m tk) a.toNatClampNeg)
section RUNBY
variable {d : Nat} {ml : zJ}
theorem t_209 {K : Int32 → zI → zJ → Prop} {mi : zI} {a : Int32} (hi : iPl mi) (h : K (if mIsP mi a then 1 else 0) mi ml) : TI (d + 2) 209 [.ref 0, .int a] zMS zMR mi ml K := by
  have e : (0 ≤ a ∧ a ≤ mi 0 6 - 1) ↔ mIsP mi a := by
    have := hi.1.2
    unfold mIsP; rw [hi.1.1, n_lep (by omega)]
  refine TI_of (B_209 _ (t_157 ⟨?_, ?_⟩))
  · split
    · exact .inr rfl
    · exact .inl rfl
  · by_cases q : mIsP mi a
    · rw [if_pos q] at h; rw [if_pos (e.mpr q)]; exact h
    · rw [if_neg q] at h; rw [if_neg (fun r => q (e.mp r))]; exact h
/-- a run goes on and is laid back: what K asks is asked of what the run came to -/
theorem t_gone {m m1 m2 : zI} {tk : Nat → List Nat} {p N n : Nat} (hp : p < 10) (hN : N ≤ 40) (hn : n + 40 ≤ 100000) (hA : iA n m tk) (h1 : ∀ c k, ¬ (c = 27 ∧ 14 * 0 ≤ k ∧ k < 14 * 0 + 13) → m1 c k = m c k) (hs : mSlot 0 m m1) (hE : mE (mRun p N (mLook m1 tk)) m2) (h27 : ∀ q, m2 27 q = m1 27 q) :
    mT m m1 ∧ mE (mRun p N (mLook m tk)) m2 ∧ mRunN p N (mLook m1 tk) = mRunN p N (mLook m tk) ∧ mRunW tk p N (mLook m1 tk) = mRunW tk p N (mLook m tk) ∧ ∀ m3 : zI, (∀ c k, ¬ (c = 1 ∧ k < 10) → ¬ (c = 0 ∧ (k = 1 ∨ k = 3 ∨ k = 4)) → m3 c k = m2 c k) → mSlot 0 m3 m2 → mT m m3 := by
  have hT1 : mT m m1 := fun c k a b e => h1 c k (fun q => e ⟨q.1, by omega⟩)
  have hLE : mE (mLook m tk) (mLook m1 tk) := mLook_e (hT1.trans (mLook_t m1 tk)) (mLook_l m1 tk)
  obtain ⟨q1, q2, q3⟩ := mRun_e hp N n _ _ (by omega) (iA_t (mLook_t m tk) hA) (mLook_l m tk) hLE
  have hE' := q1.trans hE
  refine ⟨hT1, hE', q2, q3, fun m3 h3 hs3 => ?_⟩
  have hs2 : mSlot 0 m m2 := by
    obtain ⟨a, b, c, e⟩ := hs
    exact ⟨by rw [h27]; exact a, by rw [h27]; exact b, by rw [h27]; exact c, fun k hk => by rw [h27]; exact e k hk⟩
  exact mBack (((mLook_t m tk).q.trans (mRun_q p N _)).trans hE'.1.q) hs2 hs3 h3
theorem t_218 {K : Int32 → zI → zJ → Prop} {tk : Nat → List Nat} {n : Nat} {mi : zI} {a b c : Int32} (hn : n + 40 ≤ 100000) (hA : iA n mi tk) (h : ∀ mi', mT mi mi' → K (aRun mi tk a b c) mi' ml) : TI (d + 8) 218 [.ref 0, .int a, .int b, .int c] zMS zMR mi ml K := by
  have hPl := hA.2.2.2.2.2.1
  unfold aRun at h
  refine TI_of (B_218 _ _ _ (t_209 hPl ⟨fun q => ?_, fun q => t_157 ⟨fun r => t_157 ⟨fun s => ?_, fun s => ?_⟩, fun r => ?_⟩⟩))
  · have h' := h mi mT.rfl
    rw [if_pos (fun x => by rw [if_pos x.1] at q; exact absurd q (by decide))] at h'; exact h'
  · have hp : mIsP mi a := Decidable.byContradiction fun x => q (by rw [if_neg x])
    have hc : 0 ≤ c ∧ c ≤ 3 := Decidable.byContradiction fun x => r (by rw [if_neg x])
    have hb : 0 ≤ b ∧ b ≤ 40 := Decidable.byContradiction fun x => s (by rw [if_neg x])
    obtain ⟨p, p1, p2, p3, p4⟩ := mIsP_nat hPl hp
    obtain ⟨N, N1, rfl⟩ := n_nat (Int32.not_lt.mpr hb.1)
    have hN : N ≤ 40 := (n_le (b := 40) N1 (by decide)).mp hb.2
    rw [p4, n_cl N1] at h
    subst p3
    refine t_219 (d := d + 6) (s := 0) (by decide) (fun m1 h1 hs => ?_)
    have hT1 : mT mi m1 := fun c k a b e => h1 c k (fun q => e ⟨q.1, by omega⟩)
    refine t_220 p1 hN hn (iA_t hT1 hA) (fun m2 hE h27 h43 => ?_)
    obtain ⟨-, g1, g2, g3, g4⟩ := t_gone p1 hN hn hA h1 hs hE h27
    obtain ⟨f1, f2⟩ := iA_run p1 N n _ (by omega) (iA_t (mLook_t mi tk) hA) (mLook_l mi tk)
    have fin : ∀ v : Int32, v = (if c = 0 then Int32.ofNat (mRunN p N (mLook mi tk)) else if c = 1 then mRun p N (mLook mi tk) 0 1 else if c = 2 then mRunW tk p N (mLook mi tk) else mRun p N (mLook mi tk) 0 3) → TV (d + 7) 221 [.ref 0, .int 0] zMS zMR m2 ml (fun m3 l3 => qI K (some (.int v)) m3 l3) := by
      intro v hv
      refine t_221 (d := d + 6) (s := 0) (by decide) (fun m3 h3 hs3 => ?_)
      have h' := h m3 (g4 m3 h3 hs3)
      rw [if_neg (fun x => x ⟨hp, hc⟩), if_neg (fun x => x hb), ← hv] at h'
      exact h'
    refine ⟨fun c0 => ⟨fun c1 => ⟨fun c2 => fin _ ?_, fun c2 => fin _ ?_⟩, fun c1 => fin _ ?_⟩, fun c0 => fin _ ?_⟩
    · rw [if_neg c0, if_neg c1, if_neg c2, g1.f (by decide)]
    · rw [if_neg c0, if_neg c1, if_pos (Decidable.not_not.mp c2), h43, g3]
    · rw [if_neg c0, if_pos (Decidable.not_not.mp c1)]
      obtain ⟨w1, w2⟩ := f1.2.2.2.2.1
      obtain ⟨q1, q2⟩ := iP_of f1.2.1
      obtain ⟨x1, x2, x3, x4⟩ := pow_tri _ f1.2.1
      rw [g1.f (k := 1) (by decide), g1.f (k := 0) (by decide), q1, n_pow _ (by omega), (n_msk _ q2).1, w1, n_and, Nat.and_two_pow_sub_one_eq_mod, Nat.mod_eq_of_lt w2]
    · rw [if_pos (Decidable.not_not.mp c0), g2]
  · have hp : mIsP mi a := Decidable.byContradiction fun x => q (by rw [if_neg x])
    have hc : 0 ≤ c ∧ c ≤ 3 := Decidable.byContradiction fun x => r (by rw [if_neg x])
    have h' := h mi mT.rfl
    rw [if_neg (fun x => x ⟨hp, hc⟩), if_pos (fun x => by rw [if_pos x] at s; exact s (by decide))] at h'; exact h'
  · have h' := h mi mT.rfl
    rw [if_pos (fun x => by rw [if_pos x.2] at r; exact r (by decide))] at h'; exact h'
theorem t_208 {K : Int32 → zI → zJ → Prop} {tk : Nat → List Nat} {n : Nat} {mi : zI} {a b : Int32} (hn : n + 40 ≤ 100000) (hA : iA n mi tk) (h : ∀ mi', mT mi mi' → K (aBy mi tk a b) mi' ml) : TI (d + 8) 208 [.ref 0, .int a, .int b] zMS zMR mi ml K := by
  have hPl := hA.2.2.2.2.2.1
  unfold aBy at h
  refine TI_of (B_208 _ _ (t_209 hPl ⟨fun q => ?_, fun q => t_157 ⟨fun r => ?_, fun r => ?_⟩⟩))
  · have h' := h mi mT.rfl
    rw [if_pos (fun x => by rw [if_pos x.1] at q; exact absurd q (by decide))] at h'; exact h'
  · have hp : mIsP mi a := Decidable.byContradiction fun x => q (by rw [if_neg x])
    have hb : 0 ≤ b ∧ b ≤ 2 := Decidable.byContradiction fun x => r (by rw [if_neg x])
    obtain ⟨p, p1, p2, p3, p4⟩ := mIsP_nat hPl hp
    obtain ⟨t1, t2⟩ := iPl_t (iA_t (mLook_t mi tk) hA) p1
    rw [p4] at h ⊢
    subst p3
    refine ⟨fun s => t_210 (d := d + 2) hA p1 (fun m1 hT hL hTab h27 => ?_), fun s => ⟨fun u => ⟨n_zin p1 (by omega), ?_⟩, fun u => ⟨n_zin p1 (by omega), ?_⟩⟩⟩
    · have h1 : ¬ b = 0 := fun x => by rw [x] at s; exact absurd s (by decide)
      have h2 : ¬ b = 1 := fun x => by rw [x] at s; exact absurd s (by decide)
      have hE := mLook_e hT hL
      refine t_211 (d := d + 1) (n := n) (by omega) (iA_t hT hA) hL p1 (fun x => hTab (by rw [← mKd_t hT]; exact x)) (fun m2 hG => ?_)
      have h' := h m2 (hT.trans hG.t)
      rw [if_neg (fun x => x ⟨hp, hb⟩), if_neg h1, if_neg h2] at h'
      rw [mTk_e hE t2]; exact h'
    · have h1 : b = 1 := by
        obtain ⟨k, k1, rfl⟩ := n_nat (Int32.not_lt.mpr hb.1)
        have : ¬ 2 ≤ k := fun x => s ((n_le (a := 2) (by decide) k1).mpr x)
        have : ¬ k = 0 := fun x => u (by rw [x]; rfl)
        rw [show k = 1 by omega]; rfl
      have h' := h mi mT.rfl
      rw [if_neg (fun x => x ⟨hp, hb⟩), if_neg u, if_pos h1] at h'; exact h'
    · have h' := h mi mT.rfl
      rw [if_neg (fun x => x ⟨hp, hb⟩), if_pos (Decidable.not_not.mp u)] at h'; exact h'
  · have h' := h mi mT.rfl
    rw [if_pos (fun x => by rw [if_pos x.2] at r; exact r (by decide))] at h'; exact h'
end RUNBY
