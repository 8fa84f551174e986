/-! readBook. -/
section BOOK
variable {d : Nat} {X : zS} {fr nx : Nat} {P : zR0} {cs : List pCl}
theorem t_122_12 {Q : zQ} {c0 : zI} {lc : zJ} {N : Nat} {bk : Nat → Nat} (hN : N ≤ 12) (hb : ∀ k, k < N → 1 ≤ bk k ∧ bk k < 32) : ∀ (f k n : Nat) (m c : zI), k + f = N → n + f ≤ 100000 → iA n m (tkOf cs) → iL m (tkOf cs) → cRu c m cs → cSc 8 c m → (∀ k, mBk m k = bk k) → c 1 8 = Int32.ofNat N → (∀ k, k < N → c 3 k = Int32.ofNat (bk k)) → mAs [8, 8 + 1] c0 c →
    (∀ c', mAs [8, 8 + 1] c0 c' → Q (some (.int (Int32.ofNat (mRd f k m)))) c' lc) → Wf (d + 5) 122 12 [.ref 0, .ref 8, .int (Int32.ofNat k), .retAddr 0] [] (zCS ++ X) (zCR fr nx P) c lc Q
  | 0, k, n, m, c, e, hn, hA, hL, hR, hS, hk, h8, h3, hf, h => by
    obtain rfl : k = N := by omega
    refine B_122_12 _ ⟨fun _ => ?_, fun q => absurd (by rw [h8]; exact Int32.le_refl _) q⟩
    rw [h8]
    exact h c hf
  | f + 1, k, n, m, c, e, hn, hA, hL, hR, hS, hk, h8, h3, hf, h => by
    obtain ⟨b1, b2⟩ := hb k (by omega)
    have hop := op_iff hA hL hR.2.1 hR.2.2.1 b2
    rw [mRd, hk] at h
    refine B_122_12 _ ⟨fun q => ?_, fun _ => ⟨fun q => absurd ((n_le (a := 12) (by decide) (by omega)).mp q) (by omega), fun _ => ⟨n_zin (by omega) (by decide), t_64 (d := d + 1) (.inr (.inr (.inl rfl))) hR hS hA.2.1 hA.2.2.2.1 hA.2.2.2.2.1 ?_⟩⟩⟩
    · rw [h8] at q
      exact absurd ((n_le (by omega) (by omega)).mp q) (by omega)
    · rw [n_cl (by omega), h3 k (by omega)]
      refine ⟨fun q => ?_, fun q => ?_⟩
      · have w : mGoes m (bk k) := by
          refine Decidable.byContradiction fun z => q ?_
          rw [n_bit0 _ _ b2, bN_bit, decide_eq_false_iff_not]
          exact fun v => z (hop.mp v.2).2
        rw [if_pos w] at h
        have pw := pow_tri _ hA.2.1
        have gp := mGoes_lt (iL_c hA.2.1 hL) b2 w
        refine t_90 (d := d + 1) (.inr (.inr (.inl rfl))) hS hA.2.2.2.1 hA.2.2.2.2.1 (by have := hA.2.2.2.2.1.2; omega) b2 w.2.1 (fun c3 S3 A3 _ => ?_)
        have F : fRun c lc c3 lc := fRun_89 A3
        rw [n_suc]
        exact t_122_12 hN hb f (k + 1) (n + 1) (mGo m (bk k)) c3 (by omega) (by omega) (iA_go (by omega) gp hA) (iL_go _ hL) (cRu_go _ (cRu_f F hR)) S3 (fun j => by unfold mBk; rw [mGo_c _ _ _ _ (by decide)]; exact hk j) (by rw [A3 1 8 (by decide)]; exact h8) (fun j hj => by rw [A3 3 j (by decide)]; exact h3 j hj) (mAs.trans hf A3) h
      · have w : ¬ mGoes m (bk k) := fun z => q (by
          have : (Int32.ofNat (bN (opP m cs) 32) >>> (Int32.ofNat (bk k) &&& 31)) &&& 1 = 1 := by
            rw [n_bit1 _ _ b2, bN_bit, decide_eq_true_iff]
            exact ⟨b2, hop.mpr ⟨b1, z⟩⟩
          rw [this]; decide)
        rw [if_neg w] at h
        exact h c hf
theorem t_122 {K : Int32 → zI → zJ → Prop} {n : Nat} {c m : zI} {lc : zJ} (hn : n + 12 ≤ 100000) (hA : iA n m (tkOf cs)) (hB : iBk m) (hR : cRu c m cs) (hS : cFul 1 c m) (h : ∀ c', mAs [8, 8 + 1] c c' → K (Int32.ofNat (mRd (mBkN m) 0 (mLook m (tkOf cs)))) c' lc) : TI (d + 6) 122 [.ref 0] (zCS ++ X) (zCR fr nx P) c lc K := by
  obtain ⟨s1, s2, s3, s4⟩ := hS
  obtain ⟨⟨x1, x2⟩, x3⟩ := hB
  refine TI_of (B_122 ⟨by decide, t_93 (d := d + 4) (.inr (.inr (.inl rfl))) (.inl rfl) (by decide) (cSc_look (tkOf cs) s1) (fun c1 S1 A1 _ => ?_)⟩)
  have F : fRun c lc c1 lc := fRun_89 A1
  refine t_122_12 (d := d + 1) (Q := qI K) (c0 := c) (N := mBkN m) (bk := mBk m) x2 (fun k hk => ⟨(x3 k (by omega)).2 hk, (x3 k (by omega)).1.2⟩) (mBkN m) 0 n (mLook m (tkOf cs)) c1 (by omega) (by omega) (iA_t (mLook_t m (tkOf cs)) hA) (mLook_l m _) (cRu_look _ (cRu_f F hR)) S1 (fun k => by unfold mBk; rw [mLook_c m _ (by decide) (by decide)]) (by rw [A1 1 8 (by decide), s3, x1]) (fun k hk => by rw [A1 3 k (by decide), s4 k (by omega)]; exact (x3 k (by omega)).1.1) A1 h
end BOOK
