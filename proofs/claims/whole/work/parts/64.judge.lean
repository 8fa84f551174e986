/-! The model: judge. -/
theorem n_sub {a b : Nat} (h : b ≤ a) : Int32.ofNat a - Int32.ofNat b = Int32.ofNat (a - b) := by
  obtain ⟨c, rfl⟩ : ∃ c, a = c + b := ⟨a - b, by omega⟩
  rw [← n_add, Int32.add_sub_cancel, Nat.add_sub_cancel]
/-- a place within, k behind another -/
theorem n_judge {i s k : Nat} (hi : i < 2147483648) (hs : s ≤ 60) (hk : k < 6) : Int32.ofNat i ≤ Int32.ofNat s - 1 - Int32.ofNat k ↔ i + k < s := by
  by_cases h : k + 1 ≤ s
  · have e : Int32.ofNat s - 1 - Int32.ofNat k = Int32.ofNat (s - 1 - k) := by
      show Int32.ofNat s - Int32.ofNat 1 - Int32.ofNat k = _
      rw [n_sub (by omega), n_sub (by omega)]
    rw [e, n_le hi (by omega)]; omega
  · have hx : (Int32.ofNat s - 1 - Int32.ofNat k).toInt < 0 := by
      have : ∀ s : Nat, s < 6 → ∀ k : Nat, k < 6 → s ≤ k → (Int32.ofNat s - 1 - Int32.ofNat k).toInt < 0 := by decide +kernel
      exact this s (by omega) k hk (by omega)
    rw [Int32.le_iff_toInt_le, n_int hi]
    omega
theorem n_60 (t i : Nat) : (60 : Int32) * Int32.ofNat t + Int32.ofNat i = Int32.ofNat (60 * t + i) := by
  show Int32.ofNat 60 * Int32.ofNat t + Int32.ofNat i = _
  rw [← Int32.ofNat_mul, n_add]
section JUDGE
variable {d : Nat} {ml : zJ}
theorem t_240_64 {Q : zQ} {mi : zI} {t i p : Nat} {w : Int32} (hp : p < 6) (e0 : mi 0 0 = Int32.ofNat p) (ht : t < 6) (hi : i < 2147483648) (hT : iTp mi) : ∀ (f k : Nat), k + f = p → Q (some (.int (mJd mi ml t i w f k))) mi ml → Wf (d + 1) 240 64 [.ref 0, .int (Int32.ofNat t), .int (Int32.ofNat i), .retAddr 0, .retAddr 0, .int w, .int (Int32.ofNat k)] [] zMS zMR mi ml Q
  | 0, k, e, h => by
    refine B_240_64 _ _ _ _ ?_
    rw [e0]
    exact ⟨fun _ => h, fun x => absurd ((n_le (by omega) (by omega)).mpr (by omega)) x⟩
  | f + 1, k, e, h => by
    obtain ⟨-, s1, s2⟩ := hT t ht
    refine B_240_64 _ _ _ _ ?_
    rw [e0, n_cl (show t < 2147483648 by omega), s1, n_60]
    refine ⟨fun x => absurd ((n_le (by omega) (by omega)).mp x) (by omega), fun _ => ⟨n_zin ht (by omega), fun x => ?_, fun x => ?_⟩⟩
    · have hx := (n_judge hi s2 (by omega)).mp x
      rw [mJd, if_neg (fun y => y hx)] at h
      rw [n_add, n_suc, n_cl (by omega)]
      refine ⟨n_zin (by omega) (by omega), fun y => ?_, fun y => ?_⟩
      · rw [if_pos ((lg_cmp_eq _ _).mp y)] at h
        exact t_240_64 hp e0 ht hi hT f (k + 1) (by omega) h
      · rw [if_neg (fun z => y ((lg_cmp_eq _ _).mpr z))] at h; exact h
    · rw [mJd, if_pos (fun y => x ((n_judge hi s2 (by omega)).mpr y))] at h; exact h
theorem t_240 {K : Int32 → zI → zJ → Prop} {tk : Nat → List Nat} {n : Nat} {mi : zI} {a b c e : Int32} (hn : n + 40 ≤ 100000) (hA : iA n mi tk) (hTp : iTp mi) (h : ∀ mi', mT mi mi' → K (aJudge mi tk ml a b c e) mi' ml) : TI (d + 8) 240 [.ref 0, .int a, .int b, .int c, .int e] zMS zMR mi ml K := by
  have hPl := hA.2.2.2.2.2.1
  obtain ⟨q1, q2⟩ := iP_of hA.2.1
  unfold aJudge at h
  refine TI_of (B_240 _ _ _ _ (t_241 ⟨fun q => ?_, fun q => t_209 hPl ⟨fun r => t_157 ⟨fun s => ?_, fun s => ?_⟩, fun r => ?_⟩⟩))
  · have h' := h mi mT.rfl
    rw [if_pos (fun x => by rw [if_pos x.1] at q; exact absurd q (by decide))] at h'; exact h'
  · have ha : 0 ≤ a ∧ a ≤ 5 := Decidable.byContradiction fun x => q (by rw [if_neg x])
    have hc : mIsP mi c := Decidable.byContradiction fun x => r (by rw [if_neg x])
    have he : 0 ≤ e ∧ e ≤ 40 := Decidable.byContradiction fun x => s (by rw [if_neg x])
    obtain ⟨t, t1, rfl⟩ := n_nat (Int32.not_lt.mpr ha.1)
    have t5 : t ≤ 5 := (n_le (b := 5) t1 (by decide)).mp ha.2
    obtain ⟨N, N1, rfl⟩ := n_nat (Int32.not_lt.mpr he.1)
    have hN : N ≤ 40 := (n_le (b := 40) N1 (by decide)).mp he.2
    obtain ⟨p, p1, p2, p3, p4⟩ := mIsP_nat hPl hc
    rw [p4, n_cl N1, n_cl t1] at h
    subst p3
    have hz : zin (Int32.ofNat t) 6 = true := n_zin (by omega) (by omega)
    rw [n_cl t1]
    have go : ¬ mi 14 t = -1 → mi 14 t = 4 → ¬ mi 0 0 = 0 → 0 ≤ b → TV (d + 7) 219 [.ref 0, .int 0] zMS zMR mi ml (fun mi4 ml4 => TI (d + 7) 220 [.ref 0, .int (Int32.ofNat p), .int (Int32.ofNat N)] zMS zMR mi4 ml4 (fun v5 mi5 ml5 => TV (d + 7) 221 [.ref 0, .int 0] zMS zMR mi5 ml5 (fun mi6 ml6 => Wf (d + 8) 240 64 [.ref 0, .int (Int32.ofNat t), .int b, .retAddr 0, .retAddr 0, .int (mi5 0 1), .int 0] [] zMS zMR mi6 ml6 (qI K)))) := by
      intro g1 g2 g3 g4
      obtain ⟨i, i1, rfl⟩ := n_nat (Int32.not_lt.mpr g4)
      refine t_219 (d := d + 6) (s := 0) (by decide) (fun m1 h1 hs => ?_)
      have hT1 : mT mi m1 := fun c k a b e => h1 c k (fun q => e ⟨q.1, by omega⟩)
      refine t_220 p1 hN hn (iA_t hT1 hA) (fun m2 hE h27 h43 => ?_)
      obtain ⟨-, f1, f2, f3, f4⟩ := t_gone p1 hN hn hA h1 hs hE h27
      refine t_221 (d := d + 6) (s := 0) (by decide) (fun m3 h3 hs3 => ?_)
      have hb := f4 m3 h3 hs3
      have e0 : m3 0 0 = Int32.ofNat (mPe mi) := by rw [hb.f (by decide)]; exact q1
      have hTp' : iTp m3 := by
        intro t ht
        have := hTp t ht
        have e1 : mSz m3 t = mSz mi t := by unfold mSz; rw [hb.at (by decide)]
        rw [e1, hb.at (c := 14) (by decide), hb.at (c := 15) (by decide)]; exact this
      refine t_240_64 (k := 0) q2 e0 (by omega) i1 hTp' (mPe mi) (by omega) ?_
      have h' := h m3 hb
      rw [if_neg (fun x => x ⟨ha, hc⟩), if_neg (fun x => x he), if_neg (fun x => x (.inr g2)), if_neg g3, if_neg (fun x => x.elim g1 (fun y => absurd g4 (Int32.not_le.mpr y))), n_cl i1] at h'
      have ej : ∀ f k, mJd m3 ml t i (m2 0 1) f k = mJd mi ml t i (mRun p N (mLook mi tk) 0 1) f k := by
        intro f
        induction f with
        | zero => intro k; rfl
        | succ f ih =>
          intro k
          have e1 : mSz m3 t = mSz mi t := by unfold mSz; rw [hb.at (by decide)]
          rw [mJd, mJd, ih, e1, f1.f (k := 1) (by decide)]
      show K (mJd m3 ml t i (m2 0 1) (mPe mi) 0) m3 ml
      rw [ej]
      exact h'
    refine ⟨hz, fun x => ⟨fun y => ⟨hz, fun _ => ?_, fun z => absurd x z⟩, fun y => ?_⟩, fun x => ⟨hz, fun y => ⟨fun z => ⟨hz, fun w => absurd w x, fun _ => ⟨fun w => go x y z w, fun w => ?_⟩⟩, fun z => ?_⟩, fun y => ?_⟩⟩
    · have h' := h mi mT.rfl
      rw [if_neg (fun x => x ⟨ha, hc⟩), if_neg (fun x => x he), if_neg (fun z => z (.inl x)), if_neg y, if_pos (.inl x)] at h'; exact h'
    · have h' := h mi mT.rfl
      rw [if_neg (fun x => x ⟨ha, hc⟩), if_neg (fun x => x he), if_neg (fun z => z (.inl x)), if_pos (Decidable.not_not.mp y)] at h'; exact h'
    · have h' := h mi mT.rfl
      rw [if_neg (fun x => x ⟨ha, hc⟩), if_neg (fun x => x he), if_neg (fun x => x (.inr y)), if_neg z, if_pos (.inr (Int32.not_le.mp w))] at h'; exact h'
    · have h' := h mi mT.rfl
      rw [if_neg (fun x => x ⟨ha, hc⟩), if_neg (fun x => x he), if_neg (fun x => x (.inr y)), if_pos (Decidable.not_not.mp z)] at h'; exact h'
    · have h' := h mi mT.rfl
      rw [if_neg (fun x => x ⟨ha, hc⟩), if_neg (fun x => x he), if_pos (fun z => z.elim x y)] at h'; exact h'
  · have ha : 0 ≤ a ∧ a ≤ 5 := Decidable.byContradiction fun x => q (by rw [if_neg x])
    have hc : mIsP mi c := Decidable.byContradiction fun x => r (by rw [if_neg x])
    have h' := h mi mT.rfl
    rw [if_neg (fun x => x ⟨ha, hc⟩), if_pos (fun x => by rw [if_pos x] at s; exact s (by decide))] at h'; exact h'
  · have h' := h mi mT.rfl
    rw [if_pos (fun x => by rw [if_pos x.2] at r; exact r (by decide))] at h'; exact h'
end JUDGE
