/-! The model: kept and laid back; a run. -/
/-- slot d of mi holds where all is in m -/
def mSlot (s : Nat) (m mi : zI) : Prop := mi 27 (14 * s) = m 0 1 ∧ mi 27 (14 * s + 1) = m 0 3 ∧ mi 27 (14 * s + 2) = m 0 4 ∧ ∀ k, k < 10 → mi 27 (14 * s + 3 + k) = m 1 k
theorem n_14 (s j : Nat) : (14 : Int32) * Int32.ofNat s + Int32.ofNat j = Int32.ofNat (14 * s + j) := by
  show Int32.ofNat 14 * Int32.ofNat s + Int32.ofNat j = _
  rw [← Int32.ofNat_mul, n_add]
theorem n_14a (s : Nat) : (14 : Int32) * Int32.ofNat s = Int32.ofNat (14 * s) := by
  show Int32.ofNat 14 * Int32.ofNat s = _
  rw [← Int32.ofNat_mul]
section RUNS
variable {d : Nat} {ml : zJ}
theorem t_219_at {Q : zQ} {s : Nat} {m0 : zI} (hs : s < 4) (h : ∀ mi', (∀ c k, ¬ (c = 27 ∧ 14 * s ≤ k ∧ k < 14 * s + 13) → mi' c k = m0 c k) → mSlot s m0 mi' → Q none mi' ml) : ∀ (m k : Nat) (mi : zI), k + m = 10 → (∀ c q, ¬ (c = 27 ∧ 14 * s ≤ q ∧ q < 14 * s + 13) → mi c q = m0 c q) → mi 27 (14 * s) = m0 0 1 → mi 27 (14 * s + 1) = m0 0 3 → mi 27 (14 * s + 2) = m0 0 4 → (∀ q, q < k → mi 27 (14 * s + 3 + q) = m0 1 q) →
      Wf (d + 1) 219 30 [.ref 0, .int (Int32.ofNat s), .int (Int32.ofNat k)] [] zMS zMR mi ml Q
  | 0, k, mi, e, h0, h1, h2, h3, h4 => by
    obtain rfl : k = 10 := by omega
    exact B_219_30 _ _ ⟨fun _ => h mi h0 ⟨h1, h2, h3, h4⟩, fun n => absurd (show (10 : Int32) ≤ Int32.ofNat 10 by decide) n⟩
  | m + 1, k, mi, e, h0, h1, h2, h3, h4 => by
    refine B_219_30 _ _ ⟨fun n => absurd ((n_le (a := 10) (by omega) (by omega)).mp n) (by omega), fun _ => ?_⟩
    have e3 : (14 : Int32) * Int32.ofNat s + 3 = Int32.ofNat (14 * s + 3) := n_14 s 3
    rw [e3, n_add, n_suc, n_cl (by omega), n_cl (by omega)]
    refine ⟨n_zin (by omega) (by omega), n_zin (by omega) (by omega), ?_⟩
    refine t_219_at hs h m (k + 1) _ (by omega) (fun c q hq => ?_) ?_ ?_ ?_ (fun q hq => ?_)
    · rw [zu_ne (fun r => hq ⟨r.1, by omega, by omega⟩)]; exact h0 c q hq
    · rw [zu_nk (by omega)]; exact h1
    · rw [zu_nk (by omega)]; exact h2
    · rw [zu_nk (by omega)]; exact h3
    · by_cases hh : q = k
      · subst hh; rw [zu_eq]; exact h0 1 q (by omega)
      · rw [zu_nk (by omega)]; exact h4 q (by omega)
/-- keeps -/
theorem t_219 {K : zI → zJ → Prop} {s : Nat} {mi : zI} (hs : s < 4) (h : ∀ mi', (∀ c k, ¬ (c = 27 ∧ 14 * s ≤ k ∧ k < 14 * s + 13) → mi' c k = mi c k) → mSlot s mi mi' → K mi' ml) : TV (d + 1) 219 [.ref 0, .int (Int32.ofNat s)] zMS zMR mi ml K := by
  refine TV_of (B_219 _ ?_)
  have e1 : (14 : Int32) * Int32.ofNat s + 1 = Int32.ofNat (14 * s + 1) := n_14 s 1
  have e2 : (14 : Int32) * Int32.ofNat s + 2 = Int32.ofNat (14 * s + 2) := n_14 s 2
  rw [e1, e2, n_14a, n_cl (by omega), n_cl (by omega), n_cl (by omega)]
  refine ⟨n_zin (by omega) (by omega), n_zin (by omega) (by omega), n_zin (by omega) (by omega), t_219_at (m0 := mi) hs h 10 0 _ rfl (fun c q hq => ?_) ?_ ?_ ?_ (fun q hq => absurd hq (Nat.not_lt_zero _))⟩
  · rw [zu_ne (by omega), zu_ne (by omega), zu_ne (by omega)]
  · rw [zu_nk (by omega), zu_nk (by omega), zu_eq]
  · rw [zu_nk (by omega), zu_eq]
  · rw [zu_eq]
theorem t_221_at {Q : zQ} {s : Nat} {m0 : zI} (hs : s < 4) (h : ∀ mi', (∀ c k, ¬ (c = 1 ∧ k < 10) → ¬ (c = 0 ∧ (k = 1 ∨ k = 3 ∨ k = 4)) → mi' c k = m0 c k) → mSlot s mi' m0 → Q none mi' ml) : ∀ (m k : Nat) (mi : zI), k + m = 10 → (∀ c q, ¬ (c = 1 ∧ q < 10) → ¬ (c = 0 ∧ (q = 1 ∨ q = 3 ∨ q = 4)) → mi c q = m0 c q) → m0 27 (14 * s) = mi 0 1 → m0 27 (14 * s + 1) = mi 0 3 → m0 27 (14 * s + 2) = mi 0 4 → (∀ q, q < k → m0 27 (14 * s + 3 + q) = mi 1 q) →
      Wf (d + 1) 221 30 [.ref 0, .int (Int32.ofNat s), .int (Int32.ofNat k)] [] zMS zMR mi ml Q
  | 0, k, mi, e, h0, h1, h2, h3, h4 => by
    obtain rfl : k = 10 := by omega
    exact B_221_30 _ _ ⟨fun _ => h mi h0 ⟨h1, h2, h3, h4⟩, fun n => absurd (show (10 : Int32) ≤ Int32.ofNat 10 by decide) n⟩
  | m + 1, k, mi, e, h0, h1, h2, h3, h4 => by
    refine B_221_30 _ _ ⟨fun n => absurd ((n_le (a := 10) (by omega) (by omega)).mp n) (by omega), fun _ => ?_⟩
    have e3 : (14 : Int32) * Int32.ofNat s + 3 = Int32.ofNat (14 * s + 3) := n_14 s 3
    rw [e3, n_add, n_suc, n_cl (by omega), n_cl (by omega)]
    refine ⟨n_zin (by omega) (by omega), n_zin (by omega) (by omega), ?_⟩
    refine t_221_at hs h m (k + 1) _ (by omega) (fun c q hq hq2 => ?_) ?_ ?_ ?_ (fun q hq => ?_)
    · rw [zu_ne (fun r => hq ⟨r.1, by omega⟩)]; exact h0 c q hq hq2
    · rw [zu_nc (by decide)]; exact h1
    · rw [zu_nc (by decide)]; exact h2
    · rw [zu_nc (by decide)]; exact h3
    · by_cases hh : q = k
      · subst hh; rw [zu_eq]; exact (h0 27 _ (by omega) (by omega)).symm
      · rw [zu_nk hh]; exact h4 q (by omega)
/-- lays -/
theorem t_221 {K : zI → zJ → Prop} {s : Nat} {mi : zI} (hs : s < 4) (h : ∀ mi', (∀ c k, ¬ (c = 1 ∧ k < 10) → ¬ (c = 0 ∧ (k = 1 ∨ k = 3 ∨ k = 4)) → mi' c k = mi c k) → mSlot s mi' mi → K mi' ml) : TV (d + 1) 221 [.ref 0, .int (Int32.ofNat s)] zMS zMR mi ml K := by
  refine TV_of (B_221 _ ?_)
  have e1 : (14 : Int32) * Int32.ofNat s + 1 = Int32.ofNat (14 * s + 1) := n_14 s 1
  have e2 : (14 : Int32) * Int32.ofNat s + 2 = Int32.ofNat (14 * s + 2) := n_14 s 2
  rw [e1, e2, n_14a, n_cl (by omega), n_cl (by omega), n_cl (by omega)]
  refine ⟨n_zin (by omega) (by omega), n_zin (by omega) (by omega), n_zin (by omega) (by omega), t_221_at (m0 := mi) hs h 10 0 _ rfl (fun c q hq hq2 => ?_) ?_ ?_ ?_ (fun q hq => absurd hq (Nat.not_lt_zero _))⟩
  · rw [zu_ne (by omega), zu_ne (by omega), zu_ne (by omega)]
  · rw [zu_nk (by omega), zu_nk (by omega), zu_eq]
  · rw [zu_nk (by omega), zu_eq]
  · rw [zu_eq]
/-- the run of a plan: where all is behind it, how many crossings, their worth -/
def mRun (p : Nat) : Nat → zI → zI
  | 0, m => m
  | n + 1, m => if mTk m p = 0 then m else mRun p n (mGo m (mTk m p))
def mRunN (p : Nat) : Nat → zI → Nat
  | 0, _ => 0
  | n + 1, m => if mTk m p = 0 then 0 else 1 + mRunN p n (mGo m (mTk m p))
def mRunW (tk : Nat → List Nat) (p : Nat) : Nat → zI → Int32
  | 0, _ => 0
  | n + 1, m => if mTk m p = 0 then 0 else mWor m tk (Int32.ofNat (mTk m p)) + mRunW tk p n (mGo m (mTk m p))
theorem mRunN_le (p : Nat) : ∀ n m, mRunN p n m ≤ n
  | 0, _ => Nat.le_refl _
  | n + 1, m => by
    rw [mRunN]
    split
    · omega
    · have := mRunN_le p n (mGo m (mTk m p)); omega
theorem mGo_t {m m' : zI} (h : mT m m') (g : Nat) : mT (mGo m g) (mGo m' g) := by
  intro c k a b e
  unfold mGo
  by_cases h1 : c = 1
  · subst h1
    rw [if_pos rfl, if_pos rfl, h.f (k := 4) (by decide), h.at (c := 1) (by decide)]
  · rw [if_neg h1, if_neg h1]
    by_cases h0 : c = 0
    · subst h0
      rw [if_pos rfl, if_pos rfl, h.f (k := 1) (by decide), h.f (k := 3) (by decide), h.f (k := 4) (by decide), h.f (k := k) (fun q => b ⟨rfl, q⟩)]
    · rw [if_neg h0, if_neg h0]; exact h c k a b e
theorem mGo_e {m m' : zI} (h : mE m m') (g : Nat) : mE (mGo m g) (mGo m' g) := ⟨mGo_t h.1 g, fun x hx => by
  rw [mGo_c _ _ _ _ (by decide), mGo_c _ _ _ _ (by decide), mGo_c _ _ _ _ (by decide), mGo_c _ _ _ _ (by decide)]; exact h.2 x hx⟩
theorem mKd_t {m m' : zI} (h : mT m m') (p : Nat) : mKd m' p = mKd m p := by unfold mKd; rw [h.at (c := 2) (by decide)]
theorem mTk_lt {n : Nat} {m : zI} {tk : Nat → List Nat} (hA : iA n m tk) (hL : iL m tk) {p : Nat} (hp : p < 10) (h : ¬ mTk m p = 0) : mTk m p < 32 ∧ mTk m p < 2 ^ mPe m ∧ mGoes m (mTk m p) ∧ 1 ≤ mTk m p := by
  obtain ⟨t1, t2⟩ := iPl_t hA hp
  obtain ⟨x1, x2, x3⟩ := (gl_mem _ _ 32).mp (mTk_mem t2 (fun q => h ((mTk_0 t2).mpr q)))
  exact ⟨x1, mGoes_lt (iL_c hA.2.1 hL) x1 x3, x3, x2⟩
theorem t_220_9 {Q : zQ} {tk : Nat → List Nat} {p N : Nat} {m27 : Nat → Int32} (hp : p < 10) (hN : N ≤ 40) : ∀ (k cnt n : Nat) (m mi : zI) (w : Int32), cnt + k = N → n + k ≤ 100000 → iA n m tk → iL m tk → mE m mi → (mKd m p = 4 → iTab mi) → (∀ q, mi 27 q = m27 q) → mi 0 43 = w → (∀ mi', mE (mRun p k m) mi' → (∀ q, mi' 27 q = m27 q) → mi' 0 43 = w + mRunW tk p k m → Q (some (.int (Int32.ofNat (cnt + mRunN p k m)))) mi' ml) →
      Wf (d + 7) 220 9 [.ref 0, .int (Int32.ofNat p), .int (Int32.ofNat N), .int (Int32.ofNat cnt), .retAddr 0] [] zMS zMR mi ml Q
  | 0, cnt, n, m, mi, w, e, hn, hA, hL, hE, hT, h27, hw, h => by
    obtain rfl : cnt = N := by omega
    refine B_220_9 _ _ _ ⟨fun _ => ?_, fun q => absurd (Int32.le_refl _) q⟩
    exact h mi hE h27 (by rw [mRunW, Int32.add_zero]; exact hw)
  | k + 1, cnt, n, m, mi, w, e, hn, hA, hL, hE, hT, h27, hw, h => by
    have hA1 := iA_e hE hA
    have hL1 := iL_e hE hL
    obtain ⟨t1, t2⟩ := iPl_t hA hp
    refine B_220_9 _ _ _ ⟨fun q => absurd ((n_le (by omega) (by omega)).mp q) (by omega), fun _ => ?_⟩
    refine t_211 (n := n) (by omega) hA1 hL1 hp (fun q => hT (by rw [← mKd_t hE.1]; exact q)) (fun mi1 hG => ?_)
    rw [mTk_e hE t2]
    by_cases h0 : mTk m p = 0
    · rw [aNone, if_pos h0]
      refine ⟨fun q => absurd rfl q, fun _ => ?_⟩
      rw [mRun, if_pos h0, mRunW, if_pos h0, mRunN, if_pos h0] at h
      refine h mi1 (hE.trans hG.e) (fun q => by rw [hG 27 q (by decide) (fun r => absurd r.1 (by decide))]; exact h27 q) ?_
      rw [hG 0 43 (by decide) (by decide), Int32.add_zero]; exact hw
    · obtain ⟨g1, g2, g3, g4⟩ := mTk_lt hA hL hp h0
      rw [aNone, if_neg h0]
      have hb : ∀ g : Nat, g < 32 → Int32.ofNat g ≠ -5 := by decide
      have hE1 := hE.trans hG.e
      have hA2 := iA_e hE1 hA
      have hL2 := iL_e hE1 hL
      refine ⟨fun _ => t_200 (d := d + 3) (tk := tk) g1 hA2.1 hA2.2.2.1 ((hL2 _ g1).1) (fun mi2 hA' => ?_), fun q => absurd (hb _ g1) q⟩
      · rw [mWor_s hE1.s, n_suc, hG 0 43 (by decide) (by decide), hw]
        have hE2 : mE (mGo m (mTk m p)) mi2 := (mGo_e hE1 _).trans hA'.e
        rw [mRun, if_neg h0, mRunW, if_neg h0, mRunN, if_neg h0] at h
        refine t_220_9 (m27 := m27) hp hN k (cnt + 1) (n + 1) (mGo m (mTk m p)) _ _ (by omega) (by omega) (iA_go (by omega) g2 hA) (iL_go _ hL) (hE2.put0 (by decide)) (fun q => ?_) (fun q => ?_) zu_eq (fun mi' a b c => ?_)
        · have hk4 : mKd m p = 4 := by rw [← q]; unfold mKd; rw [mGo_c _ _ _ _ (by decide)]
          have hi1 : iTab mi1 := iTab_e hG.e (fun k => hG 26 k (by decide) (fun r => absurd r.1 (by decide))) (hT hk4)
          have hi2 : iTab mi2 := iTab_e hA'.e (fun k => hA' 26 k (by decide)) (iTab_go (mTk m p) hi1)
          exact iTab_e (mE.rfl.put0 (by decide)) (fun k => zu_nc (by decide)) hi2
        · rw [zu_nc (by decide), hA' 27 q (by decide), mGo_c _ _ _ _ (by decide), hG 27 q (by decide) (fun r => absurd r.1 (by decide))]; exact h27 q
        · rw [Nat.add_assoc]; exact h mi' a b (by rw [c, Int32.add_assoc])
/-- looked at once for all -/
def mLook (m : zI) (tk : Nat → List Nat) : zI := fun c k => if c = 23 ∧ k < 32 then gPairs k else if c = 24 ∧ k < 32 then (if mCould m tk k then 1 else 0) else m c k
theorem mLook_t (m : zI) (tk : Nat → List Nat) : mT m (mLook m tk) := by
  intro c k a b e
  unfold mLook
  rw [if_neg (fun q => a (by rw [q.1]; decide)), if_neg (fun q => a (by rw [q.1]; decide))]
theorem mLook_l (m : zI) (tk : Nat → List Nat) : iL (mLook m tk) tk := by
  intro g hg
  have e := mCould_u (tk := tk) (g := g) (mLook_t m tk).u
  refine ⟨by unfold mLook; rw [if_pos ⟨rfl, hg⟩], ?_⟩
  have e2 : mLook m tk 24 g = if mCould m tk g then 1 else 0 := by unfold mLook; rw [if_neg (by omega), if_pos ⟨rfl, hg⟩]
  rw [e2]
  by_cases q : mCould m tk g
  · rw [if_pos q, if_pos (e.mpr q)]
  · rw [if_neg q, if_neg (fun r => q (e.mp r))]
theorem mLook_e {m m' : zI} {tk : Nat → List Nat} (h : mT m m') (hL : iL m' tk) : mE (mLook m tk) m' := by
  have ht : mT (mLook m tk) m' := (mLook_t m tk).symm.trans h
  refine ⟨ht, fun g hg => ?_⟩
  obtain ⟨a1, a2⟩ := hL g hg
  obtain ⟨b1, b2⟩ := mLook_l m tk g hg
  rw [a1, b1, a2, b2]
  have e := mCould_u (tk := tk) (g := g) ht.u
  refine ⟨rfl, ?_⟩
  by_cases q : mCould (mLook m tk) tk g
  · rw [if_pos q, if_pos (e.mpr q)]
  · rw [if_neg q, if_neg (fun r => q (e.mp r))]
/-- runs0 -/
theorem t_220 {K : Int32 → zI → zJ → Prop} {tk : Nat → List Nat} {p N n : Nat} {mi : zI} (hp : p < 10) (hN : N ≤ 40) (hn : n + 40 ≤ 100000) (hA : iA n mi tk) (h : ∀ mi', mE (mRun p N (mLook mi tk)) mi' → (∀ q, mi' 27 q = mi 27 q) → mi' 0 43 = mRunW tk p N (mLook mi tk) → K (Int32.ofNat (mRunN p N (mLook mi tk))) mi' ml) : TI (d + 7) 220 [.ref 0, .int (Int32.ofNat p), .int (Int32.ofNat N)] zMS zMR mi ml K := by
  refine TI_of (B_220 _ _ (t_210 (d := d + 1) hA hp (fun mi1 hT hL hTab h27 => ?_)))
  refine t_220_9 (Q := qI K) (m27 := mi 27) hp hN N 0 n (mLook mi tk) _ 0 (by omega) (by omega) (iA_t (mLook_t mi tk) hA) (mLook_l mi tk) ((mLook_e hT hL).put0 (by decide)) (fun q => ?_) (fun q => by rw [zu_nc (by decide)]; exact h27 q) zu_eq (fun mi' a b c => ?_)
  · exact iTab_e (mE.rfl.put0 (by decide)) (fun k => zu_nc (by decide)) (hTab (by rw [← mKd_t (mLook_t mi tk)]; exact q))
  · rw [Nat.zero_add]
    exact h mi' a b (by rw [c, Int32.zero_add])
end RUNS
