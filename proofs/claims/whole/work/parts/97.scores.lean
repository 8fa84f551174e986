/-! score. -/
theorem a_not (a b : Int32) : a &&& (b ^^^ -1) = a ^^^ (a &&& b) := by
  apply Int32.toBitVec_inj.mp
  simp only [Int32.toBitVec_and, Int32.toBitVec_xor]
  apply BitVec.eq_of_getLsbD_eq
  intro i hi
  have e : ∀ i : Nat, i < 32 → ((-1 : Int32).toBitVec).getLsbD i = true := by decide
  have e := e i hi
  simp only [BitVec.getLsbD_and, BitVec.getLsbD_xor, e]
  cases a.toBitVec.getLsbD i <;> cases b.toBitVec.getLsbD i <;> rfl
theorem need_tab : ∀ g : Nat, g < 32 → ∀ w : Nat, w < 32 → Int32.ofNat (oN (g &&& w)) - ((Int32.ofNat (oN g) - Int32.ofNat (oN (g &&& w))) / 2) = sOnes (Int32.ofNat (g &&& w)) 10 - sOnes (Int32.ofNat (g ^^^ (g &&& w))) 10 / 2 := by decide +kernel
theorem there_tab : ∀ p : Nat, p < 6 → ∀ h : Nat, h < 32 → ∀ g : Nat, g < 32 → h < 2 ^ p → gSub g h → (Int32.ofNat (2 ^ p - 1) &&& (Int32.ofNat h ^^^ -1)) ||| Int32.ofNat g = Int32.ofNat (((2 ^ p - 1) ^^^ h) ^^^ g) := by decide +kernel
theorem mAft_bits {m : zI} (hp : iP m) {g : Nat} (hg : g < 32) : mAftN m g = (gpN g ||| bN (mKnows1 m) 10) &&& (2 ^ sTri (mPe m) - 1) := by
  have pw := pow_tri m hp
  have l := bN_lt (mKnows1 m) 10
  have l2 := (gpN_ok g hg).2
  have l3 : gpN g ||| bN (mKnows1 m) 10 < 1024 := Nat.or_lt_two_pow (n := 10) (by omega) (by omega)
  unfold mAftN mAfter
  rw [(gpN_ok g hg).1, sBits_bN _ _ (by decide), n_or, n_sub (a := 2 ^ sTri (mPe m)) (b := 1) (by omega) |> (fun e => (e : Int32.ofNat (2 ^ sTri (mPe m)) - 1 = _)), n_and, n_cl (Nat.lt_of_le_of_lt Nat.and_le_left (by omega))]
theorem kTri_aft {m : zI} (hp : iP m) {g : Nat} (hg : g < 32) (cs : List pCl) : kTri (mPe m) ((bN (mKnows1 m) 10 ||| baN cs) ||| gpN g) = kTri (mPe m) (mAftN m g ||| baN cs) := by
  have t10 := sTri_le _ (iP_of hp).2
  rw [mAft_bits hp hg]
  apply Nat.eq_of_testBit_eq
  intro i
  unfold kTri baN
  simp only [Nat.testBit_or, Nat.testBit_and, bN_bit, Nat.testBit_two_pow_sub_one]
  by_cases h : i < 10
  · rw [tri_bit _ t10 i (by omega)]
    by_cases h2 : i < sTri (mPe m)
    · have h3 : ¬ sTri (mPe m) ≤ i := by omega
      simp only [h, h2, h3, true_and, decide_true, decide_false, Bool.and_true, Bool.or_false, Bool.false_and]
      cases decide (mKnows1 m i) <;> cases decide (cBarB cs i = true) <;> cases (gpN g).testBit i <;> rfl
    · have h3 : sTri (mPe m) ≤ i := by omega
      simp [h, h3]
  · have hgp : (gpN g).testBit i = false := by
      cases q : (gpN g).testBit i with
      | false => rfl
      | true => exact absurd (gp_10 hg q) h
    have h2 : ¬ i < sTri (mPe m) := by omega
    simp [h, hgp]
theorem tg_sp {S : zS} {t v : Nat} {q : Nat × Nat} {args : List Value} (hz : zk S t < 13) (hv : (zV v).2.1 = 2) (hl : (zV v).2.2 = [q]) : ztg S v (.ref t :: args) = some q.2 := by
  unfold ztg
  rw [hv, hl]
  show (match S[t]? with | some (ci, _) => if ci < 13 then some q.2 else none | none => none) = _
  rw [zk_of rfl (show zk S t ≠ 999 by omega)]
  exact if_pos hz
theorem tg_vi {S : zS} {t v k j : Nat} {args : List Value} (hz : zk S t = k) (hk : k < 13) (hv : (zV v).2.1 = 1) (hl : (zV v).2.2.lookup k = some j) : ztg S v (.ref t :: args) = some j := by
  unfold ztg
  rw [hv]
  show (match (S[t]?).map (·.1) with | some ci => (zV v).2.2.lookup ci | none => none) = _
  rw [zk_of hz (show k ≠ 999 by omega)]
  exact hl
section SCORES
variable {d : Nat} {X : zS} {fr nx : Nat} {P : zR0} {c m : zI} {lc : zJ} {cs : List pCl}
theorem t_81 {K : Int32 → zI → zJ → Prop} {t b e : Nat} {a : Int32} (hb : iSc b) (he : iPc e) (h : K 0 c lc) : TI (d + 1) 81 [.ref t, .int a, .ref b, .ref e, .ref 17] (zCS ++ X) (zCR fr nx P) c lc K := TI_of (B_81 t _ b e hb he h)
theorem t_78 {K : Int32 → zI → zJ → Prop} {t b e g : Nat} (hb : iSc b) (he : iPc e) (hg : g < 32) (h : K (mRank m 1 g) c lc) : TI (d + 2) 78 [.ref t, .int (Int32.ofNat g), .ref b, .ref e, .ref 17] (zCS ++ X) (zCR fr nx P) c lc K := by
  refine TI_of (B_78 t _ b e hb he (t_50g hg ?_))
  unfold mRank at h
  rw [if_pos rfl, (oN_ok g hg).1] at h
  exact h
theorem t_79 {K : Int32 → zI → zJ → Prop} {t b e g : Nat} (hb : iSc b) (he : iPc e) (hS : cSc b c m) (hp : iP m) (hg : g < 32) (hg2 : g < 2 ^ mPe m) (h : K (mRank m 2 g) c lc) : TI (d + 3) 79 [.ref t, .int (Int32.ofNat g), .ref b, .ref e, .ref 17] (zCS ++ X) (zCR fr nx P) c lc K := by
  obtain ⟨q1, q2⟩ := iP_of hp
  obtain ⟨w, w1, w2⟩ := n_and_lt (mOther m) (n := 32) (by decide) (by decide)
  have w2 : mOther m &&& 31 = Int32.ofNat w := w2
  have e1 : Int32.ofNat g &&& mOther m = Int32.ofNat (g &&& w) := by
    rw [← n_and, ← w2, Int32.and_comm (mOther m), ← Int32.and_assoc, n_31 g hg]
  have e2 : Int32.ofNat g &&& (mOther m &&& Int32.ofNat (2 ^ mPe m - 1)) = Int32.ofNat (g &&& w) := by
    rw [Int32.and_comm (mOther m), ← Int32.and_assoc, and_mask _ q2 g hg hg2, e1]
  refine TI_of (B_79 t _ b e hb he (t_80 (d := d) hb hS hp ?_))
  rw [e2]
  refine t_50g (Nat.lt_of_le_of_lt Nat.and_le_right w1) (t_50g hg ⟨by decide, ?_⟩)
  rw [need_tab g hg w w1]
  unfold mRank mNeed at h
  rw [if_neg (by decide), if_pos rfl, a_not, e1, n_xor] at h
  exact h
/-- the class's rank of kind 4 -/
def cRank4 (m : zI) (tk : Nat → List Nat) (g : Nat) : Int32 := LG (mLook m tk) (mAftN m g) (mW m ^^^ g) (1 - mBo m) * 32 + Int32.ofNat (oN g)
theorem t_74 {K : Int32 → zI → zJ → Prop} {t b e g : Nat} (hb : iSc b) (he : iPc e) (hS : cSc b c m) (hp : iP m) (hbo : iB m) (hw : iW m) (hH : iHold m cs) (hc : iCs cs) (hPa : cPa e c cs) (hm : iMm c lc) (hg : g < 32) (hsub : gSub g (hN m)) (hg2 : g < 2 ^ mPe m)
    (hz : zk (zCS ++ X) t < 13)
    (h : ∀ c' lc', iMm c' lc' → mM c lc c' lc' → K (cRank4 m (tkOf cs) g) c' lc') : TI (d + 14) 74 [.ref t, .int (Int32.ofNat g), .ref b, .ref e, .ref 17] (zCS ++ X) (zCR fr nx P) c lc K := by
  obtain ⟨q1, q2⟩ := iP_of hp
  have pw := pow_tri _ hp
  have hl := hN_lt hp hw
  obtain ⟨⟨p0, p1, p2, p3⟩, -⟩ := hPa
  have l2 : mLaw m 2 = Int32.ofNat (cLaw 2 0 cs) := hold_law hH hc (w := 2) (by decide)
  have l0 := cLaw_lt (w := 0) cs 2 hc (by decide)
  have l1 := cLaw_lt (w := 1) cs 1 hc (by decide)
  refine TI_of (B_74 t _ b e hb he (t_12 (d := d + 12) hb hS (t_75 hg (t_67 (d := d + 12) hb hp hS.1 (t_66 (d := d + 11) hb hS hp hbo hw ?_)))))
  rw [hS.1, q1, p2, p3, ← l2, sBits_bN _ _ (by decide), sBits_bN _ _ (by decide), (gpN_ok g hg).1, n_or, n_or, there_tab _ q2 _ (by omega) g hg hl hsub]
  have b1 := bN_lt (fun k => mKnows1 m k) 10
  have b2 := bN_lt (fun k => cBarB cs k = true) 10
  have b3 := (gpN_ok g hg).2
  have hK : (bN (mKnows1 m) 10 ||| baN cs) ||| gpN g < 1024 := Nat.or_lt_two_pow (n := 10) (Nat.or_lt_two_pow (n := 10) (by omega) b2) (by omega)
  obtain ⟨nw, wl⟩ := sm_nw (mPe m) (mW m) g (mBo m) q2 hg (mBo_of hbo).2 hw.2 hg2
  have hx : ((2 ^ mPe m - 1) ^^^ hN m) ^^^ g < 2 ^ mPe m := Nat.xor_lt_two_pow (Nat.xor_lt_two_pow (by omega) hl) hg2
  refine t_76 (d := d) he q2 hK (by omega) (by omega) (by omega) p0 p1 hm (fun c' lc' h1 h2 => ?_)
  have eL := LC_LG hp hH hc 1024 (mAftN m g) (mW m ^^^ g) (1 - mBo m) (((2 ^ mPe m - 1) ^^^ hN m) ^^^ g) (Nat.sub_le _ _) (by have := (mAftN_of hp g).2; omega) wl (by omega) (by omega) (by rw [Nat.mod_eq_of_lt hx]; exact nw)
  have kt : kTri (mPe m) ((bN (fun k => mKnows1 m k) 10 ||| bN (fun k => cBarB cs k = true) 10) ||| gpN g) = kTri (mPe m) (mAftN m g ||| baN cs) := kTri_aft hp hg cs
  rw [kt, ← eL]
  refine ⟨78, tg_sp (q := (99, 78)) hz rfl rfl, show 5 ≤ _ by decide, t_78 (d := d + 11) (m := m) hb he hg ?_⟩
  have h' := h c' lc' h1 h2
  unfold mRank
  rw [if_pos rfl, (oN_ok g hg).1]
  exact h'
end SCORES
