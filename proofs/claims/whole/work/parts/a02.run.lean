/-! run. -/
def iVal (x : Nat) : Prop := x = 31 ∨ x = 48 ∨ x = 53 ∨ x = 58 ∨ x = 63 ∨ x = 68 ∨ x = 73
/-- only what a trial writes -/
def fRun (c : zI) (lc : zJ) (c' : zI) (lc' : zJ) : Prop := (∀ x k, x ≠ 8 → x ≠ 9 → ¬ (x = 17 ∧ (k = 1 ∨ k = 2)) → ¬ iVal x → c' x k = c x k) ∧ ∀ x y, x ≠ 18 → lc' x y = lc x y
theorem fRun_tr {a b e : zI} {a' b' e' : zJ} (h : fRun a a' b b') (q : fRun b b' e e') : fRun a a' e e' := ⟨fun x k z1 z2 z3 z4 => by rw [q.1 x k z1 z2 z3 z4, h.1 x k z1 z2 z3 z4], fun x y z => by rw [q.2 x y z, h.2 x y z]⟩
theorem fRun_M {c c' : zI} {lc lc' : zJ} (h : mM c lc c' lc') : fRun c lc c' lc' := ⟨fun x k _ _ z _ => h.1 x k z, h.2⟩
theorem val_of {t : Nat} (h : iPc t) : iVal (t + 4) := by
  unfold iVal
  omega
theorem fRun_val {c c' : zI} {lc : zJ} {t : Nat} (ht : iPc t) (h : mA (t + 4) c c') : fRun c lc c' lc := ⟨fun x k _ _ _ z => h x k (fun q => z (by rw [q]; exact val_of ht)), fun _ _ _ => rfl⟩
theorem fRun_89 {c c' : zI} {lc : zJ} (h : mAs [8, 8 + 1] c c') : fRun c lc c' lc := ⟨fun x k z1 z2 _ _ => h x k (by simp only [List.mem_cons, List.not_mem_nil, or_false]; omega), fun _ _ _ => rfl⟩
theorem cRu_f {c c' m : zI} {lc lc' : zJ} {cs : List pCl} (h : fRun c lc c' lc') (q : cRu c m cs) : cRu c' m cs := by
  obtain ⟨q1, q2, q3, q4⟩ := q
  have hi := (ruC_of q2).1
  have nv : ∀ j, j < 4 → ∀ k, c' (ruC m + j) k = c (ruC m + j) k := fun j hj k => by
    refine h.1 _ _ ?_ ?_ ?_ ?_
    all_goals
      try unfold iVal
      generalize ruC m = r at hi
      omega
  exact ⟨by rw [h.1 1 6 (by decide) (by decide) (fun z => absurd z.1 (by decide)) (by unfold iVal; omega)]; exact q1, q2, q3, cPa_eq (nv 0 (by decide)) (nv 1 (by decide)) (nv 2 (by decide)) (nv 3 (by decide)) q4⟩
theorem mGo_13 (m : zI) (g : Nat) : mGo m g 0 13 = m 0 13 := rfl
theorem iHold_go {m : zI} {cs : List pCl} (g : Nat) (q : iHold m cs) : iHold (mGo m g) cs := iHold_eq (mGo_13 m g) (fun x k a _ => mGo_c m g x k (by omega)) q
theorem ruC_go (m : zI) (g : Nat) : ruC (mGo m g) = ruC m := by
  have e2 : mP (mGo m g) = mP m := by unfold mP; rw [mGo_13]
  unfold ruC
  rw [mGo_13, e2]
theorem cRu_go {c m : zI} {cs : List pCl} (g : Nat) (q : cRu c m cs) : cRu c (mGo m g) cs := by
  obtain ⟨q1, q2, q3, q4⟩ := q
  exact ⟨by rw [mGo_13]; exact q1, iHold_go g q2, q3, by rw [ruC_go]; exact q4⟩
section RUN
variable {d : Nat} {X : zS} {fr nx : Nat} {P : zR0} {cs : List pCl}
theorem t_92_14 {Q : zQ} {t p N : Nat} {c0 : zI} {l0 : zJ} (hp : p < 10) (hN : N ≤ 40) : ∀ (k cnt n : Nat) (m c : zI) (lc : zJ) (w : Int32), cnt + k = N → n + k ≤ 100000 → iA n m (tkOf cs) → iL m (tkOf cs) → cRu c m cs → cSc 8 c m → iMm c lc → cPlan X fr nx P t p c m → fRun c0 l0 c lc →
    (∀ c' lc', iMm c' lc' → fRun c0 l0 c' lc' → cSc 8 c' (mRun p k m) → Q (some (.int (w + mRunW (tkOf cs) p k m))) c' lc') →
    Wf (d + 17) 92 14 [.ref 0, .ref t, .int (Int32.ofNat N), .ref 8, .int w, .int (Int32.ofNat cnt), .retAddr 0] [] (zCS ++ X) (zCR fr nx P) c lc Q
  | 0, cnt, n, m, c, lc, w, e, hn, hA, hL, hR, hS, hm, hpl, hf, h => by
    obtain rfl : cnt = N := by omega
    refine B_92_14 t _ _ _ ⟨fun _ => ?_, fun q => absurd (Int32.le_refl _) q⟩
    have := h c lc hm hf hS
    rw [mRunW, Int32.add_zero] at this
    exact this
  | k + 1, cnt, n, m, c, lc, w, e, hn, hA, hL, hR, hS, hm, hpl, hf, h => by
    have hi := (ruC_of hR.2.1).1
    refine B_92_14 t _ _ _ ⟨fun q => absurd ((n_le (by omega) (by omega)).mp q) (by omega), fun _ => t_64 (d := d + 13) (.inr (.inr (.inl rfl))) hR hS hA.2.1 hA.2.2.2.1 hA.2.2.2.2.1 (t_11 (d := d + 15) hR ⟨by omega, fun c3 e3 => ?_⟩)⟩
    obtain rfl : c3 = ruC m := by omega
    refine t_pick (d := d) hA (by omega) hL hR.2.1 hR.2.2.1 (.inr (.inr (.inl rfl))) hi hS hR.2.2.2 hm hp hpl (fun c1 l1 m1 M1 => ?_)
    have hR1 := cRu_M M1 hR
    have hS1 := cSc_M (.inr (.inr (.inl rfl))) M1 hS
    by_cases h0 : mTk m p = 0
    · rw [aNone, if_pos h0]
      refine ⟨fun q => absurd q (by decide), fun _ => ?_⟩
      rw [mRun, if_pos h0, mRunW, if_pos h0] at h
      have := h c1 l1 m1 (fRun_tr hf (fRun_M M1)) hS1
      rw [Int32.add_zero] at this
      exact this
    · obtain ⟨g1, g2, g3, g4⟩ := mTk_lt hA hL hp h0
      rw [aNone, if_neg h0]
      have pw := pow_tri _ hA.2.1
      refine ⟨fun _ => t_11 (d := d + 15) hR1 ⟨by omega, fun c7 e7 => ?_⟩, fun q => absurd ((n_le (a := 1) (by decide) (by omega)).mpr g4) q⟩
      obtain rfl : c7 = ruC m := by omega
      have tgt : ztg (zCS ++ X) 85 [.ref (ruC m), .int (Int32.ofNat (mTk m p)), .ref 8] = some 87 := by
        rcases hi with q | q | q | q | q | q | q <;> rw [q] <;> rfl
      refine ⟨87, tgt, show 3 ≤ _ by decide, t_87 (d := d + 13) hi (.inr (.inr (.inl rfl))) hS1 hA.2.1 hR1.2.2.2 hR.2.2.1 g1 g2 (fun c2 A2 => ?_)⟩
      have F2 : fRun c1 l1 c2 l1 := fRun_val hi A2
      have hS2 : cSc 8 c2 m := cSc_eq (fun k _ => A2 _ _ (by generalize ruC m = r at hi; omega)) (fun k _ => A2 _ _ (by generalize ruC m = r at hi; omega)) hS1
      refine t_90 (d := d + 13) (.inr (.inr (.inl rfl))) hS2 hA.2.2.2.1 hA.2.2.2.2.1 (by have := hA.2.2.2.2.1.2; omega) g1 g3.2.1 (fun c3 S3 A3 _ => ?_)
      have F3 : fRun c2 l1 c3 l1 := fRun_89 A3
      have F : fRun c lc c3 l1 := fRun_tr (fRun_M M1) (fRun_tr F2 F3)
      rw [n_suc, ← hold_wor hR.2.1 hR.2.2.1]
      rw [mRun, if_neg h0, mRunW, if_neg h0] at h
      have m3 : iMm c3 l1 := by
        obtain ⟨lo, hi', u1, u2, u3, u4, u5⟩ := m1
        have e17 : ∀ k, c3 17 k = c1 17 k := fun k => by rw [A3 17 k (by decide), A2 17 k (by generalize ruC m = r at hi; omega)]
        exact ⟨lo, hi', by rw [e17]; exact u1, by rw [e17]; exact u2, u3, u4, u5⟩
      refine t_92_14 hp hN k (cnt + 1) (n + 1) (mGo m (mTk m p)) c3 l1 _ (by omega) (by omega) (iA_go (by omega) g2 hA) (iL_go _ hL) (cRu_go _ (cRu_f F hR)) S3 m3 (cPlan_m (fun x k a _ => mGo_c m _ x k a) (cPlan_c (fun x k a => F.1 x k (by omega) (by omega) (by omega) (by unfold iVal; omega)) hpl)) (fRun_tr hf F) (fun c' lc' u v s => ?_)
      rw [Int32.add_assoc]
      exact h c' lc' u v s
theorem mRun_4 (p : Nat) : ∀ (n : Nat) (m : zI), mRun p n m 0 4 = m 0 4 + Int32.ofNat (mRunN p n m)
  | 0, m => (Int32.add_zero _).symm
  | n + 1, m => by
    rw [mRun, mRunN]
    by_cases h : mTk m p = 0
    · rw [if_pos h, if_pos h]; exact (Int32.add_zero _).symm
    · rw [if_neg h, if_neg h, mRun_4 p n, show mGo m (mTk m p) 0 4 = m 0 4 + 1 from rfl, Int32.add_assoc]
      congr 1
      exact n_add 1 _
theorem n_back (a b : Int32) : (a + b) - a = b := by
  rw [Int32.add_comm, Int32.add_sub_cancel]
variable {c m : zI} {lc : zJ}
/-- sail -/
theorem t_92 {K : Int32 → zI → zJ → Prop} {t p N n : Nat} (hA : iA n m (tkOf cs)) (hn : n + 40 ≤ 100000) (hR : cRu c m cs) (hS : cSc 1 c m) (hm : iMm c lc) (hp : p < 10) (hN : N ≤ 40) (hpl : cPlan X fr nx P t p c m)
    (h : ∀ c' lc', iMm c' lc' → fRun c lc c' lc' → cSc 8 c' (mRun p N (mLook m (tkOf cs))) → K (mRunW (tkOf cs) p N (mLook m (tkOf cs))) c' lc') : TI (d + 18) 92 [.ref 0, .ref t, .int (Int32.ofNat N)] (zCS ++ X) (zCR fr nx P) c lc K := by
  refine TI_of (B_92 t _ ⟨by decide, t_93 (d := d + 16) (.inr (.inr (.inl rfl))) (.inl rfl) (by decide) (cSc_look (tkOf cs) hS) (fun c1 S1 A1 _ => ?_)⟩)
  have F : fRun c lc c1 lc := fRun_89 A1
  have m1 : iMm c1 lc := by
    obtain ⟨lo, hi', u1, u2, u3, u4, u5⟩ := hm
    exact ⟨lo, hi', by rw [A1 17 1 (by decide)]; exact u1, by rw [A1 17 2 (by decide)]; exact u2, u3, u4, u5⟩
  have hA2 := iA_t (mLook_t m (tkOf cs)) hA
  refine t_92_14 (d := d + 1) (Q := qI K) hp hN N 0 n (mLook m (tkOf cs)) c1 lc 0 (by omega) (by omega) hA2 (mLook_l m _) (cRu_look _ (cRu_f F hR)) S1 m1 (cPlan_m (fun x k a b => mLook_c m (tkOf cs) (by omega) (by omega)) (cPlan_c (fun x k a => F.1 x k (by omega) (by omega) (by omega) (by unfold iVal; omega)) hpl)) F (fun c' lc' u v s => ?_)
  rw [Int32.zero_add]
  exact h c' lc' u v s
end RUN
