/-! The model: comesOn. -/
theorem vc_le (far : Nat → Nat) : ∀ n, vc far n ≤ n
  | 0 => Nat.le_refl _
  | n + 1 => by rw [vc]; have := vc_le far n; split <;> omega
theorem vc_0 : ∀ n, vc (fun _ => 0) n = 0
  | 0 => rfl
  | n + 1 => by rw [vc, vc_0 n]; rfl
theorem hInv_le {m : zI} {s come k g : Nat} {far fg ord : Nat → Nat} (h : hInv m s come k g far fg ord) : come ≤ 65536 := by
  rw [← h.1.2.2.2]; exact vc_le _ _
theorem hInv_0 {m : zI} {s : Nat} (hs : s < 65536) : hInv m s 1 0 1 (u1 (fun _ => 0) s 1) (fun _ => 0) (fun _ => s) := by
  refine ⟨⟨Nat.le_refl _, rfl, u1_eq _ _ _, ?_⟩, ?_, ?_, ?_, ?_, ?_, ?_⟩
  · rw [vc_put rfl (by decide), vc_0, if_pos hs]
  · intro i hi; exact ⟨hs, by rw [u1_eq]; exact Nat.le_refl _⟩
  · intro t ht h1
    by_cases e : t = s
    · subst e
      refine ⟨⟨0, by decide, rfl⟩, ?_⟩
      rw [u1_eq]; exact ⟨rfl, rfl⟩
    · rw [u1_ne _ _ e] at h1; omega
  · intro i j _ _; exact Nat.le_refl _
  · intro i _ _; exact Nat.le_succ _
  · intro i h hh; omega
  · intro t
    by_cases e : t = s
    · rw [e, u1_eq]; exact Nat.le_refl _
    · rw [u1_ne _ _ e]; exact Nat.zero_le _
/-- where all is now, as a number -/
def aNow (m : zI) : Nat := lSt (mKn m) (mW m) (mBo m)
theorem n_dec {u : Nat} (h : u < 65536) : Int32.ofNat u / 64 = Int32.ofNat (u / 64) ∧ Int32.ofNat u / 2 % 32 = Int32.ofNat (u / 2 % 32) ∧ Int32.ofNat u % 2 = Int32.ofNat (u % 2) := by
  have e1 : Int32.ofNat u / 64 = Int32.ofNat (u / 64) := n_div (b := 64) (by omega) (by decide)
  have e2 : Int32.ofNat u / 2 = Int32.ofNat (u / 2) := n_div (b := 2) (by omega) (by decide)
  have e3 : Int32.ofNat (u / 2) % 32 = Int32.ofNat (u / 2 % 32) := n_mod (b := 32) (by omega) (by decide)
  have e4 : Int32.ofNat u % 2 = Int32.ofNat (u % 2) := n_mod (b := 2) (by omega) (by decide)
  exact ⟨e1, by rw [e2, e3], e4⟩
section COMES
variable {d : Nat} {ml : zJ}
theorem t_223_89 {Q : zQ} {m : zI} {s k : Nat} (hs : s < 65536) (hp : ∀ g, g < 32 → m 23 g = gPairs g)
    (hout : ∀ (come : Nat) (far fg ord : Nat → Nat) (mi : zI), mE m mi → hM come far fg ord mi → hInv m s come (k + 1) 1 far fg ord → Wf (d + 3) 223 59 [.ref 0, .retAddr 0, .int (Int32.ofNat (k + 1)), .retAddr 0, .retAddr 0, .retAddr 0, .retAddr 0] [] zMS zMR mi ml Q) :
    ∀ (j g u come : Nat) (far fg ord : Nat → Nat) (mi : zI), g + j = 32 → 1 ≤ g → mE m mi → hM come far fg ord mi → hInv m s come k g far fg ord → k < come → ord k = u →
      Wf (d + 3) 223 89 [.ref 0, .retAddr 0, .int (Int32.ofNat k), .int (Int32.ofNat (u / 64)), .int (Int32.ofNat (u / 2 % 32)), .int (Int32.ofNat (u % 2)), .int (Int32.ofNat g)] [] zMS zMR mi ml Q
  | 0, g, u, come, far, fg, ord, mi, e, h1, hE, hM1, hI, hk, hu => by
    obtain rfl : g = 32 := by omega
    refine B_223_89 _ _ _ _ _ ⟨fun _ => ?_, fun x => absurd (show (32 : Int32) ≤ Int32.ofNat 32 by decide) x⟩
    rw [n_suc]
    exact hout come far fg ord mi hE hM1 (hInv_next hI)
  | j + 1, g, u, come, far, fg, ord, mi, e, h1, hE, hM1, hI, hk, hu => by
    have hu' := (hI.2.1 k hk).1
    have hcl := hInv_le hI
    rw [hu] at hu'
    refine B_223_89 _ _ _ _ _ ⟨fun x => absurd ((n_le (a := 32) (by omega) (by omega)).mp x) (by omega), fun _ => t_195 (by omega) ⟨fun x => ?_, fun x => ⟨n_zin (by omega) (by omega), ?_⟩⟩⟩
    · have hno : ¬ hMay m (ord k) g := fun y => by
        rw [hu] at y
        rw [if_pos ((hMay_e hE (by omega)).mpr y)] at x; exact absurd x (by decide)
      rw [n_suc]
      exact t_223_89 hs hp hout j (g + 1) u come far fg ord mi (by omega) (by omega) hE hM1 (hInv_skip hno hI) hk hu
    · have hgo : hMay m (ord k) g := by
        rw [hu]
        exact (hMay_e hE (by omega)).mp (Decidable.byContradiction fun y => x (by rw [if_neg y]))
      obtain ⟨p1, p2⟩ := gpN_ok g (by omega)
      rw [n_suc, n_cl (by omega), (hE.2 g (by omega)).1, hp g (by omega), p1, n_or, n_xor, n_1sub _ (by omega)]
      refine t_203 (d := d + 1) ⟨n_zin (by omega) (by omega), ?_⟩
      rw [n_cl (by omega), hM1.2.2 k hk, ← hu]
      refine t_224 (d := d + 1) hs hE hM1 hI hk ⟨h1, by omega⟩ hgo (fun come' far' fg' ord' mi' c1 c2 hE' hM' hI' => ?_)
      exact t_223_89 hs hp hout j (g + 1) (ord k) come' far' fg' ord' mi' (by omega) (by omega) hE' hM' hI' (by omega) (c2 k hk)
theorem t_223_59 {Q : zQ} {m : zI} {s : Nat} (hs : s < 65536) (hp : ∀ g, g < 32 → m 23 g = gPairs g)
    (hQ : ∀ (come k : Nat) (far fg ord : Nat → Nat) (mi : zI), mE m mi → hM come far fg ord mi → hInv m s come k 1 far fg ord → come ≤ k → Q none mi ml) :
    ∀ (j k come : Nat) (far fg ord : Nat → Nat) (mi : zI), k + j = 65536 → mE m mi → hM come far fg ord mi → hInv m s come k 1 far fg ord → Wf (d + 3) 223 59 [.ref 0, .retAddr 0, .int (Int32.ofNat k), .retAddr 0, .retAddr 0, .retAddr 0, .retAddr 0] [] zMS zMR mi ml Q := by
  intro j
  induction j with
  | zero =>
    intro k come far fg ord mi e hE hM1 hI
    have hcl := hInv_le hI
    refine B_223_59 _ ?_
    rw [hM1.1]
    exact ⟨fun _ => hQ come k far fg ord mi hE hM1 hI (by omega), fun x => absurd ((n_le (by omega) (by omega)).mpr (by omega)) x⟩
  | succ j ih =>
    intro k come far fg ord mi e hE hM1 hI
    have hcl := hInv_le hI
    refine B_223_59 _ ?_
    rw [hM1.1]
    refine ⟨fun x => hQ come k far fg ord mi hE hM1 hI ((n_le (by omega) (by omega)).mp x), fun x => ?_⟩
    have hk : k < come := by
      refine Nat.lt_of_not_le (fun r => x ((n_le (by omega) (by omega)).mpr r))
    have hz : zin (Int32.ofNat k) 65536 = true := n_zin (by omega) (by omega)
    have hu := (hI.2.1 k hk).1
    obtain ⟨d1, d2, d3⟩ := n_dec hu
    rw [n_cl (by omega), hM1.2.2 k hk, d1, d2, d3]
    refine ⟨hz, by decide, hz, by decide, by decide, hz, by decide, ?_⟩
    exact t_223_89 hs hp (fun come' far' fg' ord' mi' a b c => ih (k + 1) come' far' fg' ord' mi' (by omega) a b c) 31 1 (ord k) come far fg ord mi rfl (by decide) hE hM1 hI hk rfl
theorem t_223_9 {Q : zQ} {tk : Nat → List Nat} {n : Nat} {m : zI} (hA : iA n m tk) (hL : iL m tk)
    (hQ : ∀ (come k : Nat) (far fg ord : Nat → Nat) (mi : zI), mE m mi → hM come far fg ord mi → hInv m (aNow m) come k 1 far fg ord → come ≤ k → Q none mi ml) :
    ∀ (j i : Nat) (mi : zI), i + j = 65536 → mE m mi → (∀ t, t < i → mi 28 t = -1) → Wf (d + 5) 223 9 [.ref 0, .int (Int32.ofNat i), .retAddr 0, .retAddr 0, .retAddr 0, .retAddr 0, .retAddr 0] [] zMS zMR mi ml Q
  | 0, i, mi, e, hE, h => by
    obtain rfl : i = 65536 := by omega
    have hA1 := iA_e hE hA
    obtain ⟨k1, k2⟩ := mKn_of hA1.2.1
    obtain ⟨w1, w2⟩ := mWh_of hA1.2.1
    obtain ⟨b1, b2⟩ := mBo_of hA1.2.2.2.1
    have hpw := pow_tri _ hA1.2.1
    have ek := mKn_t hE.1
    have ew : mWh mi = mW m := by rw [mWh_w hA1.2.1 hA1.2.2.2.2.1, mW_t hE.1]
    have eb := mBo_t hE.1
    have hs : aNow m < 65536 := by
      unfold aNow; rw [← ek, ← ew, ← eb]; exact lSt_lt (by omega) (by omega) b2
    refine B_223_9 _ ⟨fun _ => t_183 hA1.1 hA1.2.1 ?_, fun x => absurd (show (65536 : Int32) ≤ Int32.ofNat 65536 by decide) x⟩
    rw [k1, w1, b1, ek, ew, eb]
    refine t_203 (d := d + 3) ?_
    show zin (Int32.ofNat (aNow m)) 65536 = true ∧ zin (Int32.ofNat (aNow m)) 65536 = true ∧ zin 0 65536 = true ∧ _
    have hz : zin (Int32.ofNat (aNow m)) 65536 = true := n_zin hs (by omega)
    refine ⟨hz, hz, by decide, ?_⟩
    show Wf (d + 5) 223 59 [.ref 0, .retAddr 0, .int 0, .retAddr 0, .retAddr 0, .retAddr 0, .retAddr 0] [] zMS zMR (zu (zu (zu (zu mi 28 (Int32.ofNat (aNow m)).toNatClampNeg 0) 29 (Int32.ofNat (aNow m)).toNatClampNeg 0) 30 0 (Int32.ofNat (aNow m))) 0 47 1) ml Q
    rw [n_cl (by omega)]
    refine t_223_59 (d := d + 2) hs (fun g hg => (hL g hg).1) hQ 65536 0 1 (u1 (fun _ => 0) (aNow m) 1) (fun _ => 0) (fun _ => aNow m) _ rfl ((((hE.put (by decide)).put (by decide)).put (by decide)).put0 (by decide)) ⟨by rw [zu_eq]; rfl, fun t ht => ?_, fun i hi => ?_⟩ (hInv_0 hs)
    · by_cases et : t = aNow m
      · subst et
        rw [zu_nc (by decide), zu_nc (by decide), zu_nc (by decide), zu_eq, u1_eq]
        refine ⟨rfl, fun _ => ?_⟩
        rw [zu_nc (by decide), zu_nc (by decide), zu_eq]; rfl
      · rw [zu_nc (by decide), zu_nc (by decide), zu_nc (by decide), zu_nk et, u1_ne _ _ et, h t ht]
        exact ⟨rfl, fun q => absurd q (by omega)⟩
    · obtain rfl : i = 0 := by omega
      rw [zu_nc (by decide), zu_eq]
  | j + 1, i, mi, e, hE, h => by
    refine B_223_9 _ ⟨fun x => absurd ((n_le (a := 65536) (by omega) (by omega)).mp x) (by omega), fun _ => ⟨n_zin (by omega) (by omega), ?_⟩⟩
    rw [n_suc, n_cl (by omega)]
    refine t_223_9 hA hL hQ j (i + 1) _ (by omega) (hE.put (by decide)) (fun t ht => ?_)
    by_cases et : t = i
    · subst et; rw [zu_eq]
    · rw [zu_nk et]; exact h t (by omega)
theorem t_223 {K : zI → zJ → Prop} {tk : Nat → List Nat} {n : Nat} {mi : zI} (hA : iA n mi tk)
    (h : ∀ (come k : Nat) (far fg ord : Nat → Nat) (mi' : zI), mE (mLook mi tk) mi' → hM come far fg ord mi' → hInv (mLook mi tk) (aNow mi) come k 1 far fg ord → come ≤ k → K mi' ml) : TV (d + 5) 223 [.ref 0] zMS zMR mi ml K := by
  refine TV_of (B_223 (t_191 hA.1 hA.2.1 hA.2.2.1 (fun m1 hG => ?_)))
  have hT1 : mT mi m1 := hG.1.t (by decide)
  have en : aNow (mLook mi tk) = aNow mi := by unfold aNow; rw [mKn_t (mLook_t mi tk), mW_t (mLook_t mi tk), mBo_t (mLook_t mi tk)]
  refine t_223_9 (iA_t (mLook_t mi tk) hA) (mLook_l mi tk) (fun come k far fg ord mi' a b c e => h come k far fg ord mi' a b ?_ e) 65536 0 m1 rfl (mLook_e hT1 (iL_of hG)) (fun t ht => absurd ht (Nat.not_lt_zero _))
  rw [← en]; exact c
end COMES
