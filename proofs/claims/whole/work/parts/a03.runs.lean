/-! run, the call. -/
theorem n_40 {b : Int32} (h : 0 ≤ b) (h2 : b ≤ 40) : ∃ N : Nat, N ≤ 40 ∧ b = Int32.ofNat N ∧ b.toNatClampNeg = N := by
  obtain ⟨n, hn, rfl⟩ := n_nat (Int32.not_lt.mpr h)
  exact ⟨n, (n_le (b := 40) hn (by decide)).mp h2, rfl, n_cl hn⟩
theorem n_0123 {b : Int32} (h : 0 ≤ b) (h2 : b ≤ 3) : b = 0 ∨ b = 1 ∨ b = 2 ∨ b = 3 := by
  obtain ⟨n, hn, rfl⟩ := n_nat (Int32.not_lt.mpr h)
  have := (n_le (b := 3) hn (by decide)).mp h2
  have : n = 0 ∨ n = 1 ∨ n = 2 ∨ n = 3 := by omega
  rcases this with rfl | rfl | rfl | rfl
  · exact .inl rfl
  · exact .inr (.inl rfl)
  · exact .inr (.inr (.inl rfl))
  · exact .inr (.inr (.inr rfl))
section RUNS
variable {d : Nat} {X : zS} {fr nx : Nat} {P : zR0} {cs : List pCl} {c m : zI} {lc : zJ}
theorem t_91 {K : Int32 → zI → zJ → Prop} {a b e : Int32} {n : Nat} (hA : iA n m (tkOf cs)) (hn : n + 40 ≤ 100000) (hR : cRu c m cs) (hS : cSc 1 c m) (hm : iMm c lc) (hC : cPls X fr nx P c m)
    (h : ∀ c' lc', iMm c' lc' → fRun c lc c' lc' → K (aRun m (tkOf cs) a b e) c' lc') : TI (d + 19) 91 [.ref 0, .int a, .int b, .int e] (zCS ++ X) (zCR fr nx P) c lc K := by
  have hrf := h c lc hm (fRun_M (mM_rfl c lc))
  have a6 := hA.2.2.2.2.2.1
  unfold aRun at h hrf
  refine TI_of (B_91 a b e (t_63 (d := d + 17) a6 hC (fun q => ⟨fun _ => ?_, fun c2 e => absurd e (by omega)⟩) (fun p t p1 p2 pe hpl => ⟨fun e => absurd e (by omega), fun c2 e2 => ?_⟩)))
  · rw [if_pos (fun z => q z.1)] at hrf; exact hrf
  · obtain rfl : c2 = t := by omega
    have isP : mIsP m a := by
      rw [pe]
      exact ⟨(n_le (a := 0) (by decide) (by omega)).mpr (Nat.zero_le _), by rw [a6.1.1]; exact (n_lt (by omega) (by have := a6.1.2; omega)).mpr p1⟩
    have ea : a.toNatClampNeg = p := by rw [pe, n_cl (by omega)]
    refine ⟨fun x => ?_, fun x => ⟨fun y => ⟨fun z => ?_, fun z => ⟨fun u => ?_, fun u => ?_⟩⟩, fun y => ?_⟩⟩
    · rw [if_pos (fun z => z.2.1 |> fun w => absurd x (Int32.not_lt.mpr w))] at hrf; exact hrf
    · rw [if_neg (fun q => q ⟨isP, Int32.not_lt.mp x, y⟩), if_pos (fun w => absurd z (Int32.not_lt.mpr w.1))] at hrf; exact hrf
    · have ok := Int32.not_lt.mp x
      have okb := Int32.not_lt.mp z
      obtain ⟨N, N40, eN, cN⟩ := n_40 okb u
      have h := fun c' lc' u' v => (by have := h c' lc' u' v; rw [if_neg (fun q => q ⟨isP, ok, y⟩), if_neg (fun q => q ⟨okb, u⟩), ea, cN] at this; exact this : K (if e = 0 then Int32.ofNat (mRunN p N (mLook m (tkOf cs))) else if e = 1 then mRun p N (mLook m (tkOf cs)) 0 1 else if e = 2 then mRunW (tkOf cs) p N (mLook m (tkOf cs)) else mRun p N (mLook m (tkOf cs)) 0 3) c' lc')
      rw [eN]
      refine t_92 (d := d) hA hn hR hS hm p2 N40 hpl (fun c' lc' u' v s => ?_)
      have h := h c' lc' u' v
      obtain ⟨s0, s1, s2, s3, s4, -⟩ := s
      have e14 : c' 1 4 = m 0 4 := by rw [v.1 1 4 (by decide) (by decide) (fun z => absurd z.1 (by decide)) (by unfold iVal; omega)]; exact hS.2.2.2.2.1
      refine ⟨by decide, fun w => ?_, fun w => ⟨fun w1 => ?_, fun w1 => ⟨fun w2 => ?_, fun w2 => ?_⟩⟩⟩
      · rw [if_pos w] at h
        rw [s4, e14, mRun_4, show mLook m (tkOf cs) 0 4 = m 0 4 from mLook_c m _ (by decide) (by decide), n_back]
        exact h
      · rw [if_neg w, if_pos w1] at h
        rw [s1]; exact h
      · rw [if_neg w, if_neg w1, if_pos w2] at h
        exact h
      · rw [if_neg w, if_neg w1, if_neg w2] at h
        rw [s3]; exact h
    · rw [if_neg (fun q => q ⟨isP, Int32.not_lt.mp x, y⟩), if_pos (fun w => u w.2)] at hrf; exact hrf
    · rw [if_pos (fun z => y z.2.2)] at hrf; exact hrf
end RUNS
