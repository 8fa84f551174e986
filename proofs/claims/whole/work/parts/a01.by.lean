/-! by. -/
theorem iHold_eq {m m' : zI} {cs : List pCl} (h13 : m' 0 13 = m 0 13) (h : ∀ x k, 6 ≤ x → x ≤ 11 → m' x k = m x k) (q : iHold m cs) : iHold m' cs := by
  rcases q with q | ⟨p, p6, e, t1, t2, t3, t4, t5⟩
  · exact .inl ⟨by rw [h13]; exact q.1, q.2⟩
  · exact .inr ⟨p, p6, by rw [h13]; exact e, by rw [h 6 p (by decide) (by decide)]; exact t1, t2, xCs_eq _ _ _ (fun c q a b _ _ => h c q (by omega) (by omega)) t3, mCodes_eq (fun k => h 11 k (by decide) (by decide)) t4, t5⟩
theorem mLook_c (m : zI) (tk : Nat → List Nat) {x k : Nat} (h : x ≠ 23) (h' : x ≠ 24) : mLook m tk x k = m x k := by
  unfold mLook
  rw [if_neg (fun q => h q.1), if_neg (fun q => h' q.1)]
theorem iHold_look {m : zI} {cs : List pCl} (tk : Nat → List Nat) (q : iHold m cs) : iHold (mLook m tk) cs := iHold_eq (mLook_c m tk (by decide) (by decide)) (fun x k a b => mLook_c m tk (by omega) (by omega)) q
theorem cSc_look {t : Nat} {c m : zI} (tk : Nat → List Nat) (q : cSc t c m) : cSc t c (mLook m tk) := cSc_m (fun k _ => mLook_c m tk (by decide) (by decide)) (fun k _ => mLook_c m tk (by decide) (by decide)) q
theorem cPlan_m {X : zS} {fr nx : Nat} {P : zR0} {t p : Nat} {c m m' : zI} (h : ∀ x k, 2 ≤ x → x < 5 → m' x k = m x k) (q : cPlan X fr nx P t p c m) : cPlan X fr nx P t p c m' := by
  obtain ⟨p1, p2, p3, p4, p5, p6, p7⟩ := q
  have e : mKd m' p = mKd m p := by unfold mKd; rw [h 2 p (by decide) (by decide)]
  refine ⟨p1, by rw [e]; exact p2, by rw [e]; exact p3, by rw [h 2 p (by decide) (by decide)]; exact p4, by rw [h 3 p (by decide) (by decide)]; exact p5, p6, fun k5 => ?_⟩
  rw [e] at k5
  obtain ⟨r, r1, r2, r3, r4, r5⟩ := p7 k5
  exact ⟨r, r1, r2, r3, r4, fun k hk => by rw [h 4 _ (by decide) (by decide)]; exact r5 k hk⟩
theorem cPlan_c {X : zS} {fr nx : Nat} {P : zR0} {t p : Nat} {c c' m : zI} (h : ∀ x k, 74 ≤ x → c' x k = c x k) (q : cPlan X fr nx P t p c m) : cPlan X fr nx P t p c' m := by
  obtain ⟨p1, p2, p3, p4, p5, p6, p7⟩ := q
  refine ⟨p1, p2, p3, by rw [h _ _ p1]; exact p4, by rw [h _ _ p1]; exact p5, by rw [h _ _ p1]; exact p6, fun k5 => ?_⟩
  obtain ⟨r, r1, r2, r3, r4, r5⟩ := p7 k5
  exact ⟨r, r1, r2, r3, r4, fun k hk => by rw [h _ _ r1]; exact r5 k hk⟩
/-- all plans -/
def cPls (X : zS) (fr nx : Nat) (P : zR0) (c m : zI) : Prop := c 0 10 = m 0 6 ∧ ∀ p, p < mPl m → ∃ t, zCR fr nx P 33 p = t + 1 ∧ cPlan X fr nx P t p c m
theorem kd_class : ∀ kd : Nat, kd < 7 → zhas [0, 1, 2, 3, 5, 9, 10] (zKd kd) = true ∧ zKd kd < 13 := by decide
theorem ruC_look (m : zI) (tk : Nat → List Nat) : ruC (mLook m tk) = ruC m := by
  have e : mLook m tk 0 13 = m 0 13 := mLook_c m tk (by decide) (by decide)
  have e2 : mP (mLook m tk) = mP m := by unfold mP; rw [e]
  unfold ruC
  rw [e, e2]
theorem cRu_look {c m : zI} {cs : List pCl} (tk : Nat → List Nat) (q : cRu c m cs) : cRu c (mLook m tk) cs := by
  obtain ⟨r1, r2, r3, r4⟩ := q
  exact ⟨by rw [mLook_c m tk (by decide) (by decide)]; exact r1, iHold_look tk r2, r3, by rw [ruC_look]; exact r4⟩
theorem n_012 {b : Int32} (h : 0 ≤ b) (h2 : b ≤ 2) : b = 0 ∨ b = 1 ∨ b = 2 := by
  obtain ⟨n, hn, rfl⟩ := n_nat (Int32.not_lt.mpr h)
  have := (n_le (b := 2) hn (by decide)).mp h2
  have : n = 0 ∨ n = 1 ∨ n = 2 := by omega
  rcases this with rfl | rfl | rfl
  · exact .inl rfl
  · exact .inr (.inl rfl)
  · exact .inr (.inr rfl)
section BY
variable {d : Nat} {X : zS} {fr nx : Nat} {P : zR0} {c m : zI} {lc : zJ} {cs : List pCl}
/-- planAt -/
theorem t_63 {K : Nat → zI → zJ → Prop} {a : Int32} (hP : iPl m) (hC : cPls X fr nx P c m) (h0 : ¬ mIsP m a → K 0 c lc) (h1 : ∀ p t, p < mPl m → p < 10 → a = Int32.ofNat p → cPlan X fr nx P t p c m → K (t + 1) c lc) : TA (d + 1) 63 [.ref 0, .int a] (zCS ++ X) (zCR fr nx P) c lc K := by
  refine TA_of (B_63 a ⟨fun x => ?_, fun x => ⟨fun y => ?_, fun y => ?_⟩⟩)
  · exact h0 (fun q => absurd x (Int32.not_lt.mpr q.1))
  · rw [hC.1] at y
    exact h0 (fun q => absurd q.2 (Int32.not_lt.mpr y))
  · rw [hC.1] at y
    obtain ⟨p, q1, q2, rfl, q4⟩ := mIsP_nat hP ⟨Int32.not_lt.mp x, Int32.not_le.mp y⟩
    obtain ⟨t, t1, t2⟩ := hC.2 p q2
    refine ⟨fun z => absurd ((n_le (a := 10) (by decide) (by omega)).mp z) (by omega), fun _ => ⟨n_zin q1 (by decide), ?_⟩⟩
    rw [n_cl (by omega), t1]
    refine ⟨fun z => absurd z (by omega), fun c1 z => ?_⟩
    obtain rfl : c1 = t := by omega
    exact h1 p c1 q2 q1 rfl t2
/-- by -/
theorem t_62 {K : Int32 → zI → zJ → Prop} {a b : Int32} {n : Nat} (hA : iA n m (tkOf cs)) (hn : n ≤ 100000) (hR : cRu c m cs) (hS : cSc 1 c m) (hm : iMm c lc) (hC : cPls X fr nx P c m)
    (h : ∀ c' lc', iMm c' lc' → mM c lc c' lc' → K (aBy m (tkOf cs) a b) c' lc') : TI (d + 17) 62 [.ref 0, .int a, .int b] (zCS ++ X) (zCR fr nx P) c lc K := by
  have hrf := h c lc hm (mM_rfl c lc)
  have hA' := hA
  obtain ⟨a1, a2, a3, a4, a5, a6, a7⟩ := hA'
  unfold aBy at h hrf
  refine TI_of (B_62 a b (t_63 (d := d + 15) a6 hC (fun q => ⟨fun _ => ?_, fun c2 e => absurd e (by omega)⟩) (fun p t p1 p2 pe hpl => ⟨fun e => absurd e (by omega), fun c2 e => ?_⟩)))
  · rw [if_pos (fun z => q z.1)] at hrf; exact hrf
  · obtain rfl : c2 = t := by omega
    have isP : mIsP m a := by
      rw [pe]
      exact ⟨(n_le (a := 0) (by decide) (by omega)).mpr (Nat.zero_le _), by rw [a6.1.1]; exact (n_lt (by omega) (by have := a6.1.2; omega)).mpr p1⟩
    have ea : a.toNatClampNeg = p := by rw [pe, n_cl (by omega)]
    obtain ⟨⟨k1, k2⟩, k3, k4⟩ := kd_val hA p2
    obtain ⟨z1, z2⟩ := kd_class _ k2
    have hpl' := hpl
    obtain ⟨u1, u2, u3, u4, u5, u6, u7⟩ := hpl'
    have hn4 : 4 ≤ zn (zCS ++ X) c2 := by rw [u3]; split <;> omega
    have hzz : ∀ k, k < 4 → zand (zhas [0, 1, 2, 3, 5, 9, 10] (zk (zCS ++ X) c2)) (Nat.blt k (zn (zCS ++ X) c2)) = true := fun k hk => by
      rw [u2, z1]
      show Nat.blt k (zn (zCS ++ X) c2) = true
      exact Nat.ble_eq_true_of_le (by omega)
    refine ⟨fun x => ⟨hzz 0 (by decide), ?_⟩, fun x => ⟨fun y => ⟨hzz 1 (by decide), ?_⟩, fun y => ⟨fun z => ?_, fun z => ?_⟩⟩⟩
    · rw [if_neg (fun q => q ⟨isP, by rw [x]; decide⟩), if_pos x, ea] at hrf
      rw [u4]; exact hrf
    · rw [if_neg (fun q => q ⟨isP, by rw [y]; decide⟩), if_neg x, if_pos y, ea] at hrf
      rw [u5]; exact hrf
    · have h := fun c' lc' u v => (by have := h c' lc' u v; rw [if_neg (fun q => q ⟨isP, by rw [z]; decide⟩), if_neg x, if_neg y, ea] at this; exact this : K (aNone (mTk (mLook m (tkOf cs)) p)) c' lc')
      have hA2 := iA_t (mLook_t m (tkOf cs)) hA
      have hR2 := cRu_look (tkOf cs) hR
      have hS2 := cSc_look (tkOf cs) hS
      refine t_64 (d := d + 13) (.inl rfl) hR2 hS2 hA2.2.1 hA2.2.2.2.1 hA2.2.2.2.2.1 (t_11 (d := d + 15) hR2 ⟨by omega, fun c5 e5 => ?_⟩)
      obtain rfl : c5 = ruC (mLook m (tkOf cs)) := by omega
      exact t_pick (d := d) hA2 hn (mLook_l m (tkOf cs)) hR2.2.1 hR2.2.2.1 (.inl rfl) (ruC_of hR2.2.1).1 hS2 hR2.2.2.2 hm p2 (cPlan_m (fun x k a b => mLook_c m (tkOf cs) (by omega) (by omega)) hpl) h
    · have : ¬ (mIsP m a ∧ 0 ≤ b ∧ b ≤ 2) := fun q => (n_012 q.2.1 q.2.2).elim x (fun w => w.elim y z)
      rw [if_pos this] at hrf
      exact hrf
end BY
