/-! strangers. -/
section STRANGERS
variable {d : Nat} {X : zS} {fr nx : Nat} {P : zR0} {cs : List pCl} {c m : zI} {lc : zJ}
theorem neg_tab : ∀ b : Nat, b < 6 → ∀ h : Nat, h < 6 → h < b → Int32.ofNat h - Int32.ofNat b ≤ 4 ∧ ¬ (0 : Int32) < Int32.ofNat h - Int32.ofNat b := by decide
theorem t_111 {K : Int32 → zI → zJ → Prop} (hp : iP m) (hb : iB m) (hw : iW m) (hR : cRu c m cs) (hS : cSc 1 c m) (h : K (aStrangers m (tkOf cs)) c lc) : TI (d + 5) 111 [.ref 0] (zCS ++ X) (zCR fr nx P) c lc K := by
  obtain ⟨r1, r2, r3, r4⟩ := hR
  have hi := (ruC_of r2).1
  have pw := pow_tri _ hp
  have hl := hN_lt hp hw
  have l0 : mLaw m 0 = Int32.ofNat (cLaw 0 2 cs) := hold_law r2 r3 (w := 0) (by decide)
  have l1 : mLaw m 1 = Int32.ofNat (cLaw 1 1 cs) := hold_law r2 r3 (w := 1) (by decide)
  have b0 := cLaw_lt (w := 0) cs 2 r3 (by decide)
  have b1 := cLaw_lt (w := 1) cs 1 r3 (by decide)
  have hle : mLaw m 0 < mLeast m ↔ cLaw 0 2 cs < 1 ∨ cLaw 0 2 cs < cLaw 1 1 cs := by
    unfold mLeast
    rw [l0, l1]
    by_cases e : cLaw 1 1 cs = 0
    · rw [if_pos (by rw [e]; decide)]
      have : Int32.ofNat (cLaw 0 2 cs) < 1 ↔ cLaw 0 2 cs < 1 := n_lt (b := 1) (by omega) (by decide)
      rw [this]; omega
    · rw [if_neg (fun q => e (by have := (n_lt (b := 1) (by omega) (by decide)).mp q; omega)), n_lt (by omega) (by omega)]
      omega
  unfold aStrangers at h
  rw [most_eq hp hb hw r2 r3] at h
  have p0 := r4.1.1
  have p1 := r4.1.2.1
  refine TI_of (B_111 (t_11 (d := d + 3) ⟨r1, r2, r3, r4⟩ ⟨by omega, fun c2 e2 => ?_⟩))
  obtain rfl : c2 = ruC m := by omega
  rw [p0, p1]
  refine ⟨g_pa hi (by decide), fun x => ?_, fun x => ⟨g_pa hi (by decide), g_pa hi (by decide), fun y => ⟨g_pa hi (by decide), ?_⟩, fun y => ?_⟩⟩
  · have x := (n_lt (b := 1) (by omega) (by decide)).mp x
    rw [if_pos (hle.mpr (.inl x))] at h
    exact h
  · have x : ¬ cLaw 0 2 cs < 1 := fun q => x ((n_lt (b := 1) (by omega) (by decide)).mpr q)
    have y := (n_le (by omega) (by omega)).mp y
    rw [if_neg (fun q => (hle.mp q).elim x (by omega)), l0] at h
    refine t_66 (d := d + 2) (.inl rfl) hS hp hb hw (t_110 (d := d) (m := m) (cs := cs) (by omega) ⟨r1, r2, r3, r4⟩ hS ?_)
    have hB : cBig m cs (hN m) 32 < 32 := by
      rcases cBig_lt m cs (hN m) 32 with q | q
      · rw [q]; decide
      · exact q
    have o5 := (oN_ok _ hB).2
    refine t_50g hB ?_
    by_cases q : oN (cBig m cs (hN m) 32) ≤ cLaw 0 2 cs
    · rw [Nat.min_eq_left q, n_sub q] at h
      rw [n_sub q]
      refine ⟨fun z => ?_, fun z => ?_⟩
      · rw [if_neg (fun w => absurd z (Int32.not_le.mpr w))] at h
        by_cases w : (0 : Int32) < Int32.ofNat (cLaw 0 2 cs - oN (cBig m cs (hN m) 32))
        · rw [if_pos w]; exact h
        · rw [if_neg w]
          have : cLaw 0 2 cs - oN (cBig m cs (hN m) 32) = 0 := Decidable.byContradiction fun v => w ((n_lt (a := 0) (by decide) (by omega)).mpr (by omega))
          rw [this] at h
          exact h
      · rw [if_pos (Int32.not_le.mp z)] at h
        exact h
    · obtain ⟨v1, v2⟩ := neg_tab (oN (cBig m cs (hN m) 32)) (by omega) (cLaw 0 2 cs) (by omega) (by omega)
      rw [Nat.min_eq_right (by omega), n_sub (Nat.le_refl _), Nat.sub_self, if_neg (by decide)] at h
      refine ⟨fun z => ?_, fun z => absurd v1 z⟩
      rw [if_neg v2]
      exact h
  · have y : ¬ cLaw 1 1 cs ≤ cLaw 0 2 cs := fun q => y ((n_le (by omega) (by omega)).mpr q)
    rw [if_pos (hle.mpr (.inr (by omega)))] at h
    exact h
end STRANGERS
