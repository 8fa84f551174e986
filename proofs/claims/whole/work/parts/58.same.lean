/-! The model: the same rules; the same but for scratch; what holds between the calls. -/
/-- the same rules, the same many people -/
def mU (m m' : zI) : Prop := m' 0 13 = m 0 13 ∧ m' 0 0 = m 0 0 ∧ ∀ c k, 6 ≤ c → c < 12 → m' c k = m c k
section SAMERULES
variable {m m' : zI}
theorem mU.rfl : mU m m := ⟨Eq.refl _, Eq.refl _, fun _ _ _ _ => Eq.refl _⟩
theorem mU.trans {m'' : zI} (h : mU m m') (h' : mU m' m'') : mU m m'' := ⟨by rw [h'.1, h.1], by rw [h'.2.1, h.2.1], fun c k a b => by rw [h'.2.2 c k a b, h.2.2 c k a b]⟩
theorem mU.symm (h : mU m m') : mU m' m := ⟨h.1.symm, h.2.1.symm, fun c k a b => (h.2.2 c k a b).symm⟩
theorem mP_u (h : mU m m') : mP m' = mP m := by unfold mP; rw [h.1]
theorem mN_u (h : mU m m') : mN m' = mN m := by unfold mN; rw [mP_u h, h.1, h.2.2 6 _ (by decide) (by decide)]
theorem mPe_u (h : mU m m') : mPe m' = mPe m := by unfold mPe; rw [h.2.1]
theorem iH_u (h : mU m m') (q : iH m) : iH m' := by
  rcases q with q | ⟨p, n, hp, hn, h1, h2⟩
  · exact .inl (by rw [h.1]; exact q)
  · exact .inr ⟨p, n, hp, hn, by rw [h.1]; exact h1, by rw [h.2.2 6 _ (by decide) (by decide)]; exact h2⟩
theorem iP_u (h : mU m m') (q : iP m) : iP m' := by
  obtain ⟨p, h1, h2⟩ := q
  exact ⟨p, h1, by rw [h.2.1]; exact h2⟩
theorem mLaw_u (h : mU m m') (w : Int32) : mLaw m' w = mLaw m w := by
  have : ∀ n0 k, sLaw m' w n0 k = sLaw m w n0 k := by
    intro n0 k
    induction k with
    | zero => rfl
    | succ k ih => rw [sLaw, sLaw, ih, mP_u h, h.2.2 7 _ (by decide) (by decide), h.2.2 8 _ (by decide) (by decide)]
  unfold mLaw; rw [mN_u h, this]
theorem mLeast_u (h : mU m m') : mLeast m' = mLeast m := by unfold mLeast; rw [mLaw_u h]
theorem mCodes_u (h : mU m m') : ∀ {t : List Nat} {k : Nat}, mCodes m k t → mCodes m' k t
  | [], _, _ => trivial
  | _ :: _, k, q => ⟨by rw [h.2.2 11 k (by decide) (by decide)]; exact q.1, mCodes_u h q.2⟩
theorem iT_u (h : mU m m') {tk : Nat → List Nat} (q : iT m tk) : iT m' tk := by
  intro k hk hw
  rw [mN_u h] at hk
  rw [mP_u h, h.2.2 7 _ (by decide) (by decide)] at hw
  rw [mP_u h]
  obtain ⟨a, h1, h2, h3, h4, h5⟩ := q k hk hw
  exact ⟨a, by rw [h.2.2 9 _ (by decide) (by decide)]; exact h1, by rw [h.2.2 10 _ (by decide) (by decide)]; exact h2, h3, mCodes_u h h4, h5⟩
theorem sBar_u (h : mU m m') {tk : Nat → List Nat} {nm : Nat → Int32} : ∀ n k, sBar m' tk nm n k = sBar m tk nm n k
  | 0, _ => rfl
  | n + 1, k => by rw [sBar, sBar, sBar_u h n, mP_u h, h.2.2 7 _ (by decide) (by decide)]
theorem mBar_u (h : mU m m') {tk : Nat → List Nat} {a b : Nat} : mBar m' tk a b = mBar m tk a b := by
  unfold mBar; rw [mN_u h, sBar_u h]
theorem mBarred_u (h : mU m m') {tk : Nat → List Nat} : mBarred m' tk = mBarred m tk := by
  unfold mBarred
  rw [mPe_u h]
  exact sBits_congr _ (fun k _ => by unfold mBars; rw [mBar_u h])
theorem mCould_u (h : mU m m') {tk : Nat → List Nat} {g : Nat} : mCould m' tk g ↔ mCould m tk g := by
  unfold mCould
  rw [h.2.1, mLeast_u h, mLaw_u h, mBarred_u h]
end SAMERULES
theorem mS.u {m m' : zI} (h : mS m m') : mU m m' := ⟨h.1 13 (by decide), h.1 0 (by decide), fun c k a b => h.2 c k (by omega) (by omega)⟩
theorem mGo_u (m : zI) (g : Nat) : mU m (mGo m g) := by
  refine ⟨rfl, rfl, fun c k a b => ?_⟩
  unfold mGo
  rw [if_neg (by omega), if_neg (by omega)]
/-- looked: pairsIn and could are right -/
def iL (m : zI) (tk : Nat → List Nat) : Prop := ∀ g, g < 32 → m 23 g = gPairs g ∧ m 24 g = if mCould m tk g then 1 else 0
theorem iL_of {m0 m : zI} {tk : Nat → List Nat} (h : iG m0 tk 32 m) : iL m tk := by
  intro g hg
  obtain ⟨h1, h2⟩ := h.2 g hg
  refine ⟨h1, ?_⟩
  rw [h2]
  have e := mCould_u (tk := tk) (g := g) h.s.u
  by_cases q : mCould m0 tk g
  · rw [if_pos q, if_pos (e.mpr q)]
  · rw [if_neg q, if_neg (fun r => q (e.mp r))]
theorem iL_u {m m' : zI} {tk : Nat → List Nat} (hu : mU m m') (h3 : ∀ g, g < 32 → m' 23 g = m 23 g) (h4 : ∀ g, g < 32 → m' 24 g = m 24 g) (h : iL m tk) : iL m' tk := by
  intro g hg
  obtain ⟨a, b⟩ := h g hg
  refine ⟨by rw [h3 g hg]; exact a, ?_⟩
  rw [h4 g hg, b]
  have e := mCould_u (tk := tk) (g := g) hu
  by_cases q : mCould m tk g
  · rw [if_pos q, if_pos (e.mpr q)]
  · rw [if_neg q, if_neg (fun r => q (e.mp r))]
theorem iL_c {m : zI} {tk : Nat → List Nat} (hp : iP m) (h : iL m tk) : iC m := by
  obtain ⟨q1, q2⟩ := iP_of hp
  refine ⟨fun g hg => (h g hg).1, fun g hg hn => ?_⟩
  rw [(h g hg).2] at hn
  have hc : mCould m tk g := Decidable.byContradiction fun q => hn (by rw [if_neg q])
  have := hc.1
  rw [q1] at this
  exact n_sh _ q2 g hg this
/-- the same but for scratch -/
def mT (m m' : zI) : Prop := ∀ c k, c ∉ [20, 21, 22, 23, 24, 25, 26, 28, 29, 30] → ¬ (c = 0 ∧ k ∈ mScr) → ¬ (c = 27 ∧ k < 42) → m' c k = m c k
section SAME
variable {m m' : zI}
theorem mT.rfl : mT m m := fun _ _ _ _ _ => Eq.refl _
theorem mT.trans {m'' : zI} (h : mT m m') (h' : mT m' m'') : mT m m'' := fun c k a b e => by rw [h' c k a b e, h c k a b e]
theorem mT.symm (h : mT m m') : mT m' m := fun c k a b e => (h c k a b e).symm
theorem mT.at (h : mT m m') {c k : Nat} (hc : c ∉ [0, 20, 21, 22, 23, 24, 25, 26, 27, 28, 29, 30]) : m' c k = m c k := by
  simp only [List.mem_cons, List.not_mem_nil, or_false] at hc
  exact h c k (by simp only [List.mem_cons, List.not_mem_nil, or_false]; omega) (by omega) (by omega)
theorem mT.f (h : mT m m') {k : Nat} (hk : k ∉ mScr) : m' 0 k = m 0 k := h 0 k (by decide) (fun q => hk q.2) (by omega)
theorem mT.i (h : mT m m') {k : Nat} (hk : 42 ≤ k) : m' 27 k = m 27 k := h 27 k (by decide) (fun q => absurd q.1 (by decide)) (by omega)
theorem mT.put (h : mT m m') {c k : Nat} {v : Int32} (hc : c ∈ [20, 21, 22, 23, 24, 25, 26, 28, 29, 30]) : mT m (zu m' c k v) := fun x y a b e => by
  rw [zu_nc (fun q => a (by rw [q]; exact hc))]; exact h x y a b e
theorem mT.put0 (h : mT m m') {k : Nat} {v : Int32} (hk : k ∈ mScr) : mT m (zu m' 0 k v) := fun x y a b e => by
  rw [zu_ne (fun q => b ⟨q.1, by rw [q.2]; exact hk⟩)]; exact h x y a b e
theorem mT.put27 (h : mT m m') {k : Nat} {v : Int32} (hk : k < 42) : mT m (zu m' 27 k v) := fun x y a b e => by
  rw [zu_ne (fun q => e ⟨q.1, by rw [q.2]; exact hk⟩)]; exact h x y a b e
theorem mT.s (h : mT m m') : mS m m' := ⟨fun k hk => h.f hk, fun c k a b => h.at (by simp only [List.mem_cons, List.not_mem_nil, or_false]; omega)⟩
theorem mT.u (h : mT m m') : mU m m' := h.s.u
theorem mG.t (h : mG m m') : mT m m' := fun c k a b e => h c k (fun q => a (by rw [q]; decide)) (fun q => b ⟨q.1, by rw [q.2]; decide⟩)
theorem mAs.t {l : List Nat} (h : mAs l m m') (hl : ∀ c, c ∈ l → c ∈ [20, 21, 22, 23, 24, 25, 26, 28, 29, 30]) : mT m m' := fun c k a b e => h c k (fun q => a (hl c q))
theorem mA.t {c : Nat} (h : mA c m m') (hl : c ∈ [20, 21, 22, 23, 24, 25, 26, 28, 29, 30]) : mT m m' := fun x k a b e => h x k (fun q => a (by rw [q]; exact hl))
/-- pairsIn and could, too -/
def mE (m m' : zI) : Prop := mT m m' ∧ ∀ g, g < 32 → m' 23 g = m 23 g ∧ m' 24 g = m 24 g
theorem mE.rfl : mE m m := ⟨mT.rfl, fun _ _ => ⟨Eq.refl _, Eq.refl _⟩⟩
theorem mE.trans {m'' : zI} (h : mE m m') (h' : mE m' m'') : mE m m'' := ⟨h.1.trans h'.1, fun g hg => ⟨by rw [(h'.2 g hg).1, (h.2 g hg).1], by rw [(h'.2 g hg).2, (h.2 g hg).2]⟩⟩
theorem mE.symm (h : mE m m') : mE m' m := ⟨h.1.symm, fun g hg => ⟨(h.2 g hg).1.symm, (h.2 g hg).2.symm⟩⟩
theorem mE.at (h : mE m m') {c k : Nat} (hc : c ∉ [0, 20, 21, 22, 23, 24, 25, 26, 27, 28, 29, 30]) : m' c k = m c k := h.1.at hc
theorem mE.f (h : mE m m') {k : Nat} (hk : k ∉ mScr) : m' 0 k = m 0 k := h.1.f hk
theorem mE.put (h : mE m m') {c k : Nat} {v : Int32} (hc : c ∈ [20, 21, 22, 25, 26, 28, 29, 30]) : mE m (zu m' c k v) := ⟨h.1.put (by
    simp only [List.mem_cons, List.not_mem_nil, or_false] at hc ⊢; omega), fun g hg => by
  simp only [List.mem_cons, List.not_mem_nil, or_false] at hc
  rw [zu_nc (by omega), zu_nc (by omega)]; exact h.2 g hg⟩
theorem mE.put0 (h : mE m m') {k : Nat} {v : Int32} (hk : k ∈ mScr) : mE m (zu m' 0 k v) := ⟨h.1.put0 hk, fun g hg => by rw [zu_nc (by decide), zu_nc (by decide)]; exact h.2 g hg⟩
theorem mE.put27 (h : mE m m') {k : Nat} {v : Int32} (hk : k < 42) : mE m (zu m' 27 k v) := ⟨h.1.put27 hk, fun g hg => by rw [zu_nc (by decide), zu_nc (by decide)]; exact h.2 g hg⟩
theorem mE.s (h : mE m m') : mS m m' := h.1.s
theorem mE.u (h : mE m m') : mU m m' := h.1.u
theorem mG.e (h : mG m m') : mE m m' := ⟨h.t, fun g _ => ⟨h 23 g (by decide) (fun q => absurd q.1 (by decide)), h 24 g (by decide) (fun q => absurd q.1 (by decide))⟩⟩
theorem mAs.e (h : mAs [21, 22] m m') : mE m m' := ⟨h.t (by decide), fun g _ => ⟨h 23 g (by decide), h 24 g (by decide)⟩⟩
end SAME
/-- how many plans, a plan's kind and number, what the rows tell, crossings -/
def mPl (m : zI) : Nat := (m 0 6).toNatClampNeg
def mKd (m : zI) (p : Nat) : Nat := (m 2 p).toNatClampNeg
def mV (m : zI) (p : Nat) : Nat := (m 3 p).toNatClampNeg
def mTl (m : zI) (k : Nat) : Nat := (m 4 k).toNatClampNeg
def mCr (m : zI) : Nat := (m 0 4).toNatClampNeg
def iPl (m : zI) : Prop := (m 0 6 = Int32.ofNat (mPl m) ∧ mPl m ≤ 10) ∧ (∀ p, p < 10 → (m 2 p = Int32.ofNat (mKd m p) ∧ mKd m p < 7) ∧ (m 3 p = Int32.ofNat (mV m p) ∧ mV m p < 10)) ∧ ∀ k, k < 30 → m 4 k = Int32.ofNat (mTl m k) ∧ mTl m k < 32
def iCr (n : Nat) (m : zI) : Prop := m 0 4 = Int32.ofNat (mCr m) ∧ mCr m ≤ n
/-- all that the plans need -/
def iA (n : Nat) (m : zI) (tk : Nat → List Nat) : Prop := iH m ∧ iP m ∧ iT m tk ∧ iB m ∧ iW m ∧ iPl m ∧ iCr n m
theorem iPl_eq {m m' : zI} (h0 : m' 0 6 = m 0 6) (h : ∀ c k, 2 ≤ c → c < 5 → m' c k = m c k) (q : iPl m) : iPl m' := by
  obtain ⟨q1, q2, q3⟩ := q
  have e2 : ∀ k, m' 2 k = m 2 k := fun k => h 2 k (by decide) (by decide)
  have e3 : ∀ k, m' 3 k = m 3 k := fun k => h 3 k (by decide) (by decide)
  have e4 : ∀ k, m' 4 k = m 4 k := fun k => h 4 k (by decide) (by decide)
  unfold iPl mPl mKd mV mTl
  simp only [h0, e2, e3, e4]
  exact ⟨q1, q2, q3⟩
theorem iA_t {n : Nat} {m m' : zI} {tk : Nat → List Nat} (h : mT m m') (q : iA n m tk) : iA n m' tk := by
  obtain ⟨a, b, c, e, f, g, i⟩ := q
  have e0 : m' 0 1 = m 0 1 := h.f (by decide)
  have e3 : m' 0 3 = m 0 3 := h.f (by decide)
  have e4 : m' 0 4 = m 0 4 := h.f (by decide)
  refine ⟨iH_u h.u a, iP_u h.u b, iT_u h.u c, ?_, ?_, iPl_eq (h.f (by decide)) (fun c k x y => h.at (by simp only [List.mem_cons, List.not_mem_nil, or_false]; omega)) g, ?_⟩
  · unfold iB; rw [e3]; exact e
  · unfold iW mW; rw [e0, mPe_u h.u]; exact f
  · unfold iCr mCr; rw [e4]; exact i
theorem iA_e {n : Nat} {m m' : zI} {tk : Nat → List Nat} (h : mE m m') (q : iA n m tk) : iA n m' tk := iA_t h.1 q
theorem iL_e {m m' : zI} {tk : Nat → List Nat} (h : mE m m') (q : iL m tk) : iL m' tk := iL_u h.u (fun g hg => (h.2 g hg).1) (fun g hg => (h.2 g hg).2) q
theorem mGo_1 (m : zI) (g : Nat) : mGo m g 0 1 = m 0 1 ^^^ Int32.ofNat g := rfl
theorem mGo_3 (m : zI) (g : Nat) : mGo m g 0 3 = 1 - m 0 3 := rfl
theorem mGo_4 (m : zI) (g : Nat) : mGo m g 0 4 = m 0 4 + 1 := rfl
theorem mGo_c (m : zI) (g c k : Nat) (h : 2 ≤ c) : mGo m g c k = m c k := by unfold mGo; rw [if_neg (by omega), if_neg (by omega)]
theorem mGo_0 (m : zI) (g k : Nat) (h : ¬ k = 1 ∧ ¬ k = 3 ∧ ¬ k = 4) : mGo m g 0 k = m 0 k := by
  unfold mGo; rw [if_neg (by decide), if_pos rfl, if_neg h.1, if_neg h.2.1, if_neg h.2.2]
theorem iA_go {n : Nat} {m : zI} {tk : Nat → List Nat} {g : Nat} (hn : n < 100000) (hg : g < 2 ^ mPe m) (q : iA n m tk) : iA (n + 1) (mGo m g) tk := by
  obtain ⟨a, b, c, e, f, i, j⟩ := q
  have hu := mGo_u m g
  obtain ⟨p1, p2, p3, p4⟩ := pow_tri m b
  refine ⟨iH_u hu a, iP_u hu b, iT_u hu c, ?_, ?_, iPl_eq (mGo_0 m g 6 (by decide)) (fun c k x _ => mGo_c m g c k x) i, ?_⟩
  · unfold iB; rw [mGo_3]
    rcases e with e | e <;> rw [e]
    · exact .inr (by decide)
    · exact .inl (by decide)
  · have hx : mW m ^^^ g < 2 ^ mPe m := Nat.xor_lt_two_pow f.2 hg
    have e1 : mGo m g 0 1 = Int32.ofNat (mW m ^^^ g) := by rw [mGo_1, f.1, n_xor]
    have e2 : mW (mGo m g) = mW m ^^^ g := by unfold mW; rw [e1, n_cl (by omega)]; rfl
    unfold iW
    rw [e2, mPe_u hu]
    exact ⟨e1, hx⟩
  · have e1 : mGo m g 0 4 = Int32.ofNat (mCr m + 1) := by rw [mGo_4, j.1, n_suc]
    have hj := j.2
    have e2 : mCr (mGo m g) = mCr m + 1 := by
      have q : mCr (mGo m g) = (Int32.ofNat (mCr m + 1)).toNatClampNeg := by rw [← e1]; rfl
      rw [q, n_cl (by omega)]
    unfold iCr
    rw [e2]
    exact ⟨e1, by omega⟩
theorem iL_go {m : zI} {tk : Nat → List Nat} (g : Nat) (q : iL m tk) : iL (mGo m g) tk := iL_u (mGo_u m g) (fun _ _ => mGo_c m g _ _ (by decide)) (fun _ _ => mGo_c m g _ _ (by decide)) q
theorem lgOf_eq {m0 mi : zI} (h3 : ∀ g, g < 32 → mi 23 g = m0 23 g) (h4 : ∀ g, g < 32 → mi 24 g = m0 24 g) (f : Nat → Nat → Nat → Int32) (k w a : Nat) : ∀ n, n ≤ 32 → lgOf mi f k w a n = lgOf m0 f k w a n
  | 0, _ => rfl
  | n + 1, hn => by
    have e : lCan mi k w a n ↔ lCan m0 k w a n := by unfold lCan mMay; rw [h4 n (by omega), h3 n (by omega)]
    rw [lgOf, lgOf, lgOf_eq h3 h4 f k w a n (by omega)]
    by_cases q : lCan m0 k w a n
    · rw [if_pos q, if_pos (e.mpr q)]
    · rw [if_neg q, if_neg (fun r => q (e.mp r))]
theorem LG_same {m0 mi : zI} (h3 : ∀ g, g < 32 → mi 23 g = m0 23 g) (h4 : ∀ g, g < 32 → mi 24 g = m0 24 g) (k w a : Nat) : LG mi k w a = LG m0 k w a := by
  have : ∀ f k w a, LGf mi f k w a = LGf m0 f k w a := by
    intro f
    induction f with
    | zero => intro k w a; rfl
    | succ f ih =>
      intro k w a
      rw [LGf, LGf, lgOf_eq h3 h4 _ _ _ _ 32 (Nat.le_refl _)]
      congr 1
      funext x y z
      exact ih x y z
  exact this _ _ _ _
theorem iTab_of {m0 mi : zI} (hu : mU m0 mi) (h3 : ∀ g, g < 32 → mi 23 g = m0 23 g) (h4 : ∀ g, g < 32 → mi 24 g = m0 24 g) (h6 : ∀ k, mi 26 k = m0 26 k) (q : iTab m0) : iTab mi := by
  intro k w a hk hw ha
  rw [mPe_u hu] at hk hw
  rw [LG_same h3 h4, lTab, h6]
  exact q k w a hk hw ha
theorem iTab_e {m0 mi : zI} (h : mE m0 mi) (h6 : ∀ k, mi 26 k = m0 26 k) (q : iTab m0) : iTab mi := iTab_of h.u (fun g hg => (h.2 g hg).1) (fun g hg => (h.2 g hg).2) h6 q
theorem iTab_go {m : zI} (g : Nat) (q : iTab m) : iTab (mGo m g) := iTab_of (mGo_u m g) (fun _ _ => mGo_c m g _ _ (by decide)) (fun _ _ => mGo_c m g _ _ (by decide)) (fun _ => mGo_c m g _ _ (by decide)) q
