/-! The model: longest, price, readBook, judge. -/
abbrev mIsPe (m : zI) (a : Int32) : Prop := 0 ≤ a ∧ a < m 0 0
theorem mIsPe_nat {m : zI} (h : iP m) {a : Int32} (q : mIsPe m a) : ∃ p : Nat, p < 5 ∧ p < mPe m ∧ a = Int32.ofNat p ∧ a.toNatClampNeg = p := by
  obtain ⟨q1, q2⟩ := iP_of h
  obtain ⟨p, hp, rfl⟩ := n_nat (Int32.not_lt.mpr q.1)
  have h2 := q.2
  rw [q1, n_lt hp (by omega)] at h2
  exact ⟨p, by omega, h2, rfl, n_cl (by omega)⟩
/-- the group that the book tells at k; how many it tells -/
def mBk (m : zI) (k : Nat) : Nat := (m 5 k).toNatClampNeg
def mBkN (m : zI) : Nat := (m 0 10).toNatClampNeg
def iBk (m : zI) : Prop := (m 0 10 = Int32.ofNat (mBkN m) ∧ mBkN m ≤ 12) ∧ ∀ k, k < 12 → (m 5 k = Int32.ofNat (mBk m k) ∧ mBk m k < 32) ∧ (k < mBkN m → 1 ≤ mBk m k)
theorem iBk_eq {m m' : zI} (h0 : m' 0 10 = m 0 10) (h : ∀ k, k < 12 → m' 5 k = m 5 k) (q : iBk m) : iBk m' := by
  have e : mBkN m' = mBkN m := by unfold mBkN; rw [h0]
  unfold iBk
  rw [e, h0]
  refine ⟨q.1, fun k hk => ?_⟩
  have e2 : mBk m' k = mBk m k := by unfold mBk; rw [h k hk]
  rw [e2, h k hk]
  exact q.2 k hk
/-- how many of the book go, from the k-th on -/
def mRd : Nat → Nat → zI → Nat
  | 0, k, _ => k
  | f + 1, k, m => if mGoes m (mBk m k) then mRd f (k + 1) (mGo m (mBk m k)) else k
/-- a tape's sort and size -/
def mSz (m : zI) (t : Nat) : Nat := (m 15 t).toNatClampNeg
def iTp (m : zI) : Prop := ∀ t, t < 6 → (m 14 t = -1 ∧ mSz m t = 0 ∨ ∃ s : Nat, s < 5 ∧ m 14 t = Int32.ofNat s) ∧ m 15 t = Int32.ofNat (mSz m t) ∧ mSz m t ≤ 60
/-- the first of whom it is otherwise -/
def mJd (m : zI) (lm : zJ) (t i : Nat) (w : Int32) : Nat → Nat → Int32
  | 0, _ => -5
  | f + 1, k => if ¬ i + k < mSz m t then 100 + Int32.ofNat k else if lm 16 (60 * t + i + k) = ((w >>> (Int32.ofNat k &&& 31)) &&& 1).toInt64 then mJd m lm t i w f (k + 1) else Int32.ofNat k
def aJudge (m : zI) (tk : Nat → List Nat) (lm : zJ) (a b c e : Int32) : Int32 :=
  if ¬ ((0 ≤ a ∧ a ≤ 5) ∧ mIsP m c) then -1 else if ¬ (0 ≤ e ∧ e ≤ 40) then -2
  else if ¬ (m 14 a.toNatClampNeg = -1 ∨ m 14 a.toNatClampNeg = 4) then -12
  else if m 0 0 = 0 then -5 else if m 14 a.toNatClampNeg = -1 ∨ b < 0 then 100
  else mJd m lm a.toNatClampNeg b.toNatClampNeg (mRun c.toNatClampNeg e.toNatClampNeg (mLook m tk) 0 1) (mPe m) 0
def aLongest (m : zI) (tk : Nat → List Nat) : Int32 := LG (mLook m tk) (mKn m) (mW m) (mBo m)
def aPrice (m : zI) (tk : Nat → List Nat) (a b : Int32) : Int32 :=
  if ¬ (mIsPe m a ∧ mIsPe m b) then -1 else if a = b then -2
  else aLongest m tk - LG (mLook m tk) (mKn m ||| 2 ^ sPair a.toNatClampNeg b.toNatClampNeg) (mW m) (mBo m)
theorem mKn_t {m m' : zI} (h : mT m m') : mKn m' = mKn m := by unfold mKn; rw [mKnown_s h.s]
theorem mW_t {m m' : zI} (h : mT m m') : mW m' = mW m := by unfold mW; rw [h.f (by decide)]
theorem mBo_t {m m' : zI} (h : mT m m') : mBo m' = mBo m := by unfold mBo; rw [h.f (by decide)]
theorem mWh_w {m : zI} (hp : iP m) (h : iW m) : mWh m = mW m := by
  obtain ⟨q1, q2⟩ := iP_of hp
  obtain ⟨x1, x2, x3, x4⟩ := pow_tri _ hp
  obtain ⟨w1, w2⟩ := h
  have e : m 0 1 &&& (Int32.ofNat (2 ^ mPe m) - 1) = Int32.ofNat (mW m) := by
    rw [(n_msk _ q2).1, w1, n_and, Nat.and_two_pow_sub_one_eq_mod, Nat.mod_eq_of_lt w2]
  unfold mWh
  rw [e, n_cl (by omega)]
theorem pair_lt : ∀ p : Nat, p < 6 → ∀ a : Nat, a < p → ∀ b : Nat, b < p → ¬ a = b → sPair a b < sTri p := by decide
section READ
variable {d : Nat} {ml : zJ}
theorem t_160 {K : Int32 → zI → zJ → Prop} {mi : zI} {a : Int32} (hi : iP mi) (h : K (if mIsPe mi a then 1 else 0) mi ml) : TI (d + 2) 160 [.ref 0, .int a] zMS zMR mi ml K := by
  obtain ⟨q1, q2⟩ := iP_of hi
  have e : (0 ≤ a ∧ a ≤ mi 0 0 - 1) ↔ mIsPe mi a := by
    unfold mIsPe; rw [q1, n_lep (by omega)]
  refine TI_of (B_160 _ (t_157 ⟨?_, ?_⟩))
  · split
    · exact .inr rfl
    · exact .inl rfl
  · by_cases q : mIsPe mi a
    · rw [if_pos q] at h; rw [if_pos (e.mpr q)]; exact h
    · rw [if_neg q] at h; rw [if_neg (fun r => q (e.mp r))]; exact h
theorem t_241 {K : Int32 → zI → zJ → Prop} {mi : zI} {a : Int32} (h : K (if 0 ≤ a ∧ a ≤ 5 then 1 else 0) mi ml) : TI (d + 2) 241 [.ref 0, .int a] zMS zMR mi ml K := by
  refine TI_of (B_241 _ (t_157 ⟨?_, h⟩))
  split
  · exact .inr rfl
  · exact .inl rfl
/-- looks and allLongs, one behind the other -/
theorem t_table {K : zI → zJ → Prop} {tk : Nat → List Nat} {mi : zI} (hi : iH mi) (hp : iP mi) (hT : iT mi tk) (h : ∀ mi', mE (mLook mi tk) mi' → iTab mi' → K mi' ml) : TV (d + 4) 191 [.ref 0] zMS zMR mi ml (fun m1 l1 => TV (d + 4) 202 [.ref 0] zMS zMR m1 l1 K) := by
  refine t_191 hi hp hT (fun m1 hG => ?_)
  have hT1 : mT mi m1 := hG.1.t (by decide)
  refine t_202 (iP_u hT1.u hp) (iC_of hp hG) (fun m2 hA2 hr => ?_)
  have hu2 : mU m1 m2 := ⟨hA2 0 13 (by decide), hA2 0 0 (by decide), fun c k _ _ => hA2 c k (by omega)⟩
  refine h m2 (mLook_e (hT1.trans (hA2.t (by decide))) (iL_u hu2 (fun _ _ => hA2 23 _ (by decide)) (fun _ _ => hA2 24 _ (by decide)) (iL_of hG))) ?_
  intro k w a hk hw ha
  rw [mPe_u hu2] at hk hw
  rw [LG_same (fun _ _ => hA2 23 _ (by decide)) (fun _ _ => hA2 24 _ (by decide))]
  exact hr k w a hk hw ha
theorem t_205' {K : Int32 → zI → zJ → Prop} {tk : Nat → List Nat} {m0 mi : zI} (hi : iH m0) (hp : iP m0) (hb : iB m0) (hw : iW m0) (hE : mE (mLook m0 tk) mi) (hT : iTab mi) (h : K (aLongest m0 tk) mi ml) : TI (d + 5) 205 [.ref 0] zMS zMR mi ml K := by
  have ht : mT m0 mi := (mLook_t m0 tk).trans hE.1
  have hp' := iP_u ht.u hp
  have hb' : iB mi := by unfold iB; rw [ht.f (by decide)]; exact hb
  have hw' : iW mi := by unfold iW mW; rw [ht.f (by decide), mPe_u ht.u]; exact hw
  refine t_205 (iH_u ht.u hi) hp' hb' ?_
  rw [mWh_w hp' hw', hT _ _ _ (mKn_of hp').2 hw'.2 (mBo_of hb').2, LG_same (fun g hg => (hE.2 g hg).1) (fun g hg => (hE.2 g hg).2), mKn_t ht, mW_t ht, mBo_t ht]
  exact h
theorem t_201 {K : Int32 → zI → zJ → Prop} {tk : Nat → List Nat} {n : Nat} {mi : zI} (hA : iA n mi tk) (h : ∀ mi', mT mi mi' → K (aLongest mi tk) mi' ml) : TI (d + 6) 201 [.ref 0] zMS zMR mi ml K := by
  obtain ⟨a1, a2, a3, a4, a5, a6, a7⟩ := hA
  refine TI_of (B_201 (t_table (d := d + 1) a1 a2 a3 (fun m2 hE hT => t_205' a1 a2 a4 a5 hE hT ?_)))
  exact h m2 ((mLook_t mi tk).trans hE.1)
theorem t_206 {K : Int32 → zI → zJ → Prop} {tk : Nat → List Nat} {n : Nat} {mi : zI} {a b : Int32} (hA : iA n mi tk) (h : ∀ mi', mT mi mi' → K (aPrice mi tk a b) mi' ml) : TI (d + 6) 206 [.ref 0, .int a, .int b] zMS zMR mi ml K := by
  obtain ⟨a1, a2, a3, a4, a5, a6, a7⟩ := hA
  unfold aPrice at h
  refine TI_of (B_206 _ _ (t_160 a2 ⟨fun q => ?_, fun q => t_160 a2 ⟨fun r => ⟨fun s => ?_, fun s => ?_⟩, fun r => ?_⟩⟩))
  · have h' := h mi mT.rfl
    rw [if_pos (fun x => by rw [if_pos x.1] at q; exact absurd q (by decide))] at h'; exact h'
  · have ha : mIsPe mi a := Decidable.byContradiction fun x => q (by rw [if_neg x])
    have hb : mIsPe mi b := Decidable.byContradiction fun x => r (by rw [if_neg x])
    obtain ⟨x, x1, x2, x3, x4⟩ := mIsPe_nat a2 ha
    obtain ⟨y, y1, y2, y3, y4⟩ := mIsPe_nat a2 hb
    rw [x4, y4] at h
    subst x3; subst y3
    have hne : ¬ x = y := fun e => s (by rw [e])
    have hpl := pair_lt _ (iP_of a2).2 _ x2 _ y2 hne
    have ht10 := sTri_le _ (iP_of a2).2
    refine t_table (d := d + 1) a1 a2 a3 (fun m2 hE hT => ?_)
    have ht : mT mi m2 := (mLook_t mi tk).trans hE.1
    have hp' := iP_u ht.u a2
    have hb' : iB m2 := by unfold iB; rw [ht.f (by decide)]; exact a4
    have hw' : iW m2 := by unfold iW mW; rw [ht.f (by decide), mPe_u ht.u]; exact a5
    refine t_183 (d := d + 1) (iH_u ht.u a1) hp' (t_158 x1 y1 (t_205' a1 a2 a4 a5 hE hT ?_))
    obtain ⟨k1, k2⟩ := mKn_of hp'
    obtain ⟨w1, w2⟩ := mWh_of hp'
    obtain ⟨b1, b2⟩ := mBo_of hb'
    obtain ⟨p1, p2, p3, p4⟩ := pow_tri _ hp'
    have hk : mKn m2 ||| 2 ^ sPair x y < 2 ^ sTri (mPe m2) := Nat.or_lt_two_pow k2 (by rw [mPe_u ht.u]; exact Nat.pow_lt_pow_right (by decide) hpl)
    have hs := lSt_lt (k := mKn m2 ||| 2 ^ sPair x y) (w := mW m2) (a := mBo m2) (by omega) (by have := hw'.2; omega) b2
    rw [k1, w1, b1, n_pow _ (by omega), n_or, mWh_w hp' hw']
    refine t_203 ⟨n_zin hs (by omega), ?_⟩
    rw [n_cl (by omega)]
    have q := hT _ _ _ hk hw'.2 b2
    unfold lTab at q
    rw [q, LG_same (fun g hg => (hE.2 g hg).1) (fun g hg => (hE.2 g hg).2), mKn_t ht, mW_t ht, mBo_t ht]
    have h' := h m2 ht
    rw [if_neg (fun z => z ⟨ha, hb⟩), if_neg s] at h'
    exact h'
  · have ha : mIsPe mi a := Decidable.byContradiction fun x => q (by rw [if_neg x])
    have hb : mIsPe mi b := Decidable.byContradiction fun x => r (by rw [if_neg x])
    have h' := h mi mT.rfl
    rw [if_neg (fun z => z ⟨ha, hb⟩), if_pos (Decidable.not_not.mp s)] at h'
    exact h'
  · have h' := h mi mT.rfl
    rw [if_pos (fun x => by rw [if_pos x.2] at r; exact r (by decide))] at h'; exact h'
theorem t_239_7 {Q : zQ} {tk : Nat → List Nat} {m0 m27 : zI} (hs : mSlot 0 m0 m27) (hfin : ∀ (v : Nat) (mi' : zI), mT m0 mi' → v = mRd (mBkN m0) 0 (mLook m0 tk) → Q (some (.int (Int32.ofNat v))) mi' ml) : ∀ (f k n : Nat) (m mi : zI), k + f = mBkN m0 → n + f ≤ 100000 → iA n m tk → iBk m → mBkN m = mBkN m0 → iL m tk → mQ m0 m → mE m mi → (∀ q, mi 27 q = m27 27 q) → mRd f k m = mRd (mBkN m0) 0 (mLook m0 tk) → Wf (d + 6) 239 7 [.ref 0, .int (Int32.ofNat k)] [] zMS zMR mi ml Q := by
  intro f
  have back : ∀ (v : Nat) (m mi : zI), mQ m0 m → mE m mi → (∀ q, mi 27 q = m27 27 q) → v = mRd (mBkN m0) 0 (mLook m0 tk) → TV (d + 5) 221 [.ref 0, .int 0] zMS zMR mi ml (fun m3 l3 => Q (some (.int (Int32.ofNat v))) m3 l3) := by
    intro v m mi hq hE h27 hv
    refine t_221 (d := d + 4) (s := 0) (by decide) (fun m3 h3 hs3 => ?_)
    refine hfin v m3 (mBack (hq.trans hE.1.q) ?_ hs3 h3) hv
    obtain ⟨a, b, c, e⟩ := hs
    exact ⟨by rw [h27]; exact a, by rw [h27]; exact b, by rw [h27]; exact c, fun k hk => by rw [h27]; exact e k hk⟩
  induction f with
  | zero =>
    intro k n m mi ek hn hA hB eB hL hq hE h27 hr
    obtain ⟨⟨b1, b2⟩, -⟩ := hB
    have e10 : mi 0 10 = Int32.ofNat (mBkN m0) := by rw [hE.f (by decide), b1, eB]
    refine B_239_7 _ ?_
    rw [e10]
    refine ⟨fun _ => back k m mi hq hE h27 (by rw [mRd] at hr; exact hr), fun x => absurd ((n_le (by omega) (by omega)).mpr (by omega)) x⟩
  | succ f ih =>
    intro k n m mi ek hn hA hB eB hL hq hE h27 hr
    obtain ⟨⟨b1, b2⟩, b3⟩ := hB
    obtain ⟨⟨c1, c2⟩, c3⟩ := b3 k (by omega)
    have c3 := c3 (by omega)
    have hA1 := iA_e hE hA
    have hL1 := iL_e hE hL
    have e10 : mi 0 10 = Int32.ofNat (mBkN m0) := by rw [hE.f (by decide), b1, eB]
    have e5 : mi 5 k = Int32.ofNat (mBk m k) := by rw [hE.at (by decide)]; exact c1
    have hz : zin (Int32.ofNat k) 12 = true := n_zin (by omega) (by omega)
    have hC := iL_c hA.2.1 hL
    refine B_239_7 _ ?_
    rw [e10, n_cl (by omega), e5]
    refine ⟨fun x => absurd ((n_le (by omega) (by omega)).mp x) (by omega), fun _ => ⟨hz, t_190 ⟨fun x => ?_, fun x => ⟨hz, ?_⟩⟩⟩⟩
    · refine back k m mi hq hE h27 ?_
      rw [mRd, if_neg (fun y => ?_)] at hr
      · exact hr
      · have hl := mGoes_lt hC c2 y
        obtain ⟨q1, q2⟩ := iP_of hA1.2.1
        have hpm := pow_tri _ hA1.2.1
        rw [← mPe_u hE.u] at hl
        rw [if_pos ⟨(n_lt (a := 0) (by omega) (by omega)).mpr (by omega), by rw [q1, n_pow _ (by omega), n_lt (by omega) (by omega)]; exact hl⟩] at x
        exact absurd x (by decide)
    · rw [e5]
      refine t_194 hA1.1 hA1.2.1 c2 ⟨fun y => ?_, fun y => ⟨hz, ?_⟩⟩
      · refine back k m mi hq hE h27 ?_
        rw [mRd, if_neg (fun z => by rw [if_pos ((mGoes_e hE c2).mpr z)] at y; exact absurd y (by decide))] at hr
        exact hr
      · have hg : mGoes m (mBk m k) := (mGoes_e hE c2).mp (Decidable.byContradiction fun z => y (by rw [if_neg z]))
        rw [mRd, if_pos hg] at hr
        rw [e5]
        refine t_200 (d := d + 2) (tk := tk) c2 hA1.1 hA1.2.2.1 (hL1 _ c2).1 (fun mi2 hA' => ?_)
        rw [n_suc]
        refine ih (k + 1) (n + 1) (mGo m (mBk m k)) mi2 (by omega) (by omega) (iA_go (by omega) (mGoes_lt hC c2 hg) hA) (iBk_eq (mGo_0 _ _ _ (by decide)) (fun q _ => mGo_c _ _ _ _ (by decide)) ⟨⟨b1, b2⟩, b3⟩) ?_ (iL_go _ hL) (hq.trans (mGo_q _ _)) ((mGo_e hE _).trans hA'.e) (fun q => ?_) hr
        · unfold mBkN; rw [mGo_0 _ _ _ (by decide)]; exact eB
        · rw [hA' 27 q (by decide), mGo_c _ _ _ _ (by decide)]; exact h27 q
theorem t_239 {K : Int32 → zI → zJ → Prop} {tk : Nat → List Nat} {n : Nat} {mi : zI} (hn : n + 12 ≤ 100000) (hA : iA n mi tk) (hB : iBk mi) (h : ∀ mi', mT mi mi' → K (Int32.ofNat (mRd (mBkN mi) 0 (mLook mi tk))) mi' ml) : TI (d + 6) 239 [.ref 0] zMS zMR mi ml K := by
  obtain ⟨a1, a2, a3, a4, a5, a6, a7⟩ := hA
  refine TI_of (B_239 (t_191 (d := d + 1) a1 a2 a3 (fun m1 hG => t_219 (d := d + 4) (s := 0) (by decide) (fun m2 h2 hs2 => ?_))))
  have hT1 : mT mi m1 := hG.1.t (by decide)
  have hT2 : mT m1 m2 := fun c k a b e => h2 c k (fun q => e ⟨q.1, by omega⟩)
  have hs : mSlot 0 mi m2 := by
    obtain ⟨a, b, c, e⟩ := hs2
    exact ⟨by rw [a, hT1.f (by decide)], by rw [b, hT1.f (by decide)], by rw [c, hT1.f (by decide)], fun k hk => by rw [e k hk, hT1.at (by decide)]⟩
  have hL2 : iL m2 tk := iL_u hT2.u (fun g _ => h2 23 g (by omega)) (fun g _ => h2 24 g (by omega)) (iL_of hG)
  have hB' : iBk (mLook mi tk) := iBk_eq ((mLook_t mi tk).f (by decide)) (fun k _ => (mLook_t mi tk).at (by decide)) hB
  have eB : mBkN (mLook mi tk) = mBkN mi := by unfold mBkN; rw [(mLook_t mi tk).f (by decide)]
  refine t_239_7 (m0 := mi) (m27 := m2) (tk := tk) hs (fun v mi' ht hv => ?_) (mBkN mi) 0 n (mLook mi tk) m2 (by omega) (by have := hB.1.2; omega) (iA_t (mLook_t mi tk) ⟨a1, a2, a3, a4, a5, a6, a7⟩) hB' eB (mLook_l mi tk) (mLook_t mi tk).q (mLook_e (hT1.trans hT2) hL2) (fun _ => rfl) rfl
  rw [hv]; exact h mi' ht
end READ
