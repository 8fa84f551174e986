/-! The model: home, left. -/
def mWn (m : zI) : Nat := (m 0 2 &&& (Int32.ofNat (2 ^ mPe m) - 1)).toNatClampNeg
theorem mWn_of {m : zI} (hp : iP m) : m 0 2 &&& (Int32.ofNat (2 ^ mPe m) - 1) = Int32.ofNat (mWn m) ∧ mWn m < 32 := by
  obtain ⟨x1, x2, x3, x4⟩ := pow_tri _ hp
  obtain ⟨w, h1, h2⟩ := n_and_lt (m 0 2) x4 (by omega)
  have e : mWn m = w := by unfold mWn; rw [h2, n_cl (by omega)]
  rw [e]; exact ⟨h2, by omega⟩
abbrev hGoal (W : Nat) (far : Nat → Nat) (t : Nat) : Prop := t / 2 % 32 = W ∧ far t ≤ 31
/-- the best of the first i -/
def hBst (W : Nat) (far fg ord : Nat → Nat) (i : Nat) (x : Int32) : Prop :=
  (x = -1 ∧ ∀ j, j < i → ¬ hGoal W far (ord j)) ∨
  ∃ j, j < i ∧ x = Int32.ofNat (ord j) ∧ hGoal W far (ord j) ∧ ∀ j', j' < i → hGoal W far (ord j') → far (ord j) ≤ far (ord j') ∧ (far (ord j') = far (ord j) → fg (ord j) ≤ fg (ord j'))
theorem hBst_skip {W : Nat} {far fg ord : Nat → Nat} {i : Nat} {x : Int32} (h : hBst W far fg ord i x) (hn : ¬ hGoal W far (ord i)) : hBst W far fg ord (i + 1) x := by
  rcases h with ⟨rfl, h⟩ | ⟨j, h1, rfl, h2, h3⟩
  · refine .inl ⟨rfl, fun j hj => ?_⟩
    by_cases e : j = i
    · rw [e]; exact hn
    · exact h j (by omega)
  · refine .inr ⟨j, by omega, rfl, h2, fun j' hj' q => ?_⟩
    by_cases e : j' = i
    · rw [e] at q; exact absurd q hn
    · exact h3 j' (by omega) q
section HOMELEFT
variable {d : Nat} {ml : zJ}
theorem n_ne1 {k : Nat} (h : k < 2147483648) : ¬ Int32.ofNat k = -1 := by
  intro e
  have : (-1 : Int32) < Int32.ofNat k := by
    rw [Int32.lt_iff_toInt_lt, n_int h]
    have : (-1 : Int32).toInt = -1 := by decide
    omega
  rw [e] at this
  exact absurd this (by decide)
theorem t_222_15 {Q : zQ} {m mi : zI} {s come : Nat} {far fg ord : Nat → Nat} {a : Int32} {k0 : Nat} (hs : s < 65536) (hp : iP mi) (hM1 : hM come far fg ord mi) (hI : hInv m s come k0 1 far fg ord) (hk0 : come ≤ k0)
    (hQ : ∀ n f : Int32, hIs m s (mWn mi) n f → Q (some (.int (if a = 0 then n else f))) mi ml) :
    ∀ (j i : Nat) (x : Int32), i + j = come → hBst (mWn mi) far fg ord i x → Wf (d + 1) 222 15 [.ref 0, .int a, .int x, .int (Int32.ofNat i), .retAddr 0, .retAddr 0] [] zMS zMR mi ml Q := by
  have hcl := hInv_le hI
  have hall := hInv_all hs hk0 hI
  obtain ⟨A, B, C, D, E, G, F⟩ := hI
  obtain ⟨m1, m2, m3⟩ := hM1
  obtain ⟨w1, w2⟩ := mWn_of hp
  obtain ⟨q1, q2⟩ := iP_of hp
  intro j
  induction j with
  | zero =>
    intro i x e hB
    obtain rfl : i = come := by omega
    refine B_222_15 _ _ _ ?_
    rw [m1]
    refine ⟨fun _ => ?_, fun x => absurd (Int32.le_refl _) x⟩
    rcases hB with ⟨rfl, h⟩ | ⟨j, h1, rfl, h2, h3⟩
    · refine ⟨fun q => absurd rfl q, fun _ => ?_⟩
      have := hQ (-5) (-5) (.inl ⟨rfl, rfl, fun N F' t hN hq hW => ?_⟩)
      · split at this <;> exact this
      · obtain ⟨r1, r2, r3⟩ := hall N F' t hq
        obtain ⟨⟨j, hj, rfl⟩, -⟩ := C t (hQ_lt hs N F' t hq).1 r1
        exact h j hj ⟨hW, by omega⟩
    · obtain ⟨b1, b2⟩ := B j h1
      obtain ⟨t1, t2⟩ := m2 _ b1
      obtain ⟨c1, c2⟩ := C _ b1 b2
      have hz : zin (Int32.ofNat (ord j)) 65536 = true := n_zin b1 (by omega)
      have is := hQ (Int32.ofNat (far (ord j) - 1)) (Int32.ofNat (fg (ord j))) (.inr ⟨far (ord j) - 1, fg (ord j), by have := h2.2; omega, rfl, rfl, ⟨_, c2, h2.1⟩, fun N' F' t hq hW => ?_⟩)
      · refine ⟨fun _ => ⟨fun c => ⟨hz, ?_⟩, fun c => ⟨hz, ?_⟩⟩, fun q => absurd (n_ne1 (by omega)) q⟩
        · rw [n_cl (by omega), t2 b2]; rw [if_neg c] at is; exact is
        · rw [n_cl (by omega), t1, n_m1 b2]; rw [if_pos (Decidable.not_not.mp c)] at is; exact is
      · obtain ⟨r1, r2, r3⟩ := hall N' F' t hq
        obtain ⟨⟨j', hj', rfl⟩, -⟩ := C t (hQ_lt hs N' F' t hq).1 r1
        by_cases h31 : far (ord j') ≤ 31
        · have := h3 j' hj' ⟨hW, h31⟩
          refine ⟨by omega, fun eN => ?_⟩
          have e1 : far (ord j') = far (ord j) := by omega
          have := this.2 e1
          have := r3 (by omega)
          omega
        · have := h2.2
          refine ⟨by omega, fun eN => by omega⟩
  | succ j ih =>
    intro i x e hB
    have hi : i < come := by omega
    obtain ⟨b1, b2⟩ := B i hi
    obtain ⟨t1, t2⟩ := m2 _ b1
    have Fi := F (ord i)
    obtain ⟨d1, d2, d3⟩ := n_dec b1
    have hz : zin (Int32.ofNat i) 65536 = true := n_zin (by omega) (by omega)
    have hz1 : zin (Int32.ofNat (ord i)) 65536 = true := n_zin b1 (by omega)
    have fgi := (hQ_lt hs _ _ _ (C _ b1 b2).2).2
    refine B_222_15 _ _ _ ?_
    rw [m1, n_suc, n_cl (show i < 2147483648 by omega), m3 i hi, d2, q1, n_pow _ (by omega), w1, n_cl (show ord i < 2147483648 by omega), t1, t2 b2]
    have far31 : 30 < Int32.ofNat (far (ord i)) - 1 ↔ 31 < far (ord i) := by
      rw [n_m1 b2, show (30 : Int32) = Int32.ofNat 30 from rfl, n_lt (by omega) (by omega)]; omega
    refine ⟨fun y => absurd ((n_le (by omega) (by omega)).mp y) (by omega), fun _ => ⟨hz, by decide, by decide, fun y => ?_, fun y => ⟨hz, hz1, fun z => ?_, fun z => ?_⟩⟩⟩
    · exact ih (i + 1) x (by omega) (hBst_skip hB (fun g => y (by rw [g.1])))
    · exact ih (i + 1) x (by omega) (hBst_skip hB (fun g => by have := far31.mp z; have := g.2; omega))
    · have hg : hGoal (mWn mi) far (ord i) := ⟨(n_eq (by omega) (by omega)).mp (Decidable.not_not.mp y), by
        have : ¬ 31 < far (ord i) := fun r => z (far31.mpr r)
        omega⟩
      rcases hB with ⟨rfl, h⟩ | ⟨b, h1, rfl, h2, h3⟩
      · refine ⟨fun _ => ⟨hz, ih (i + 1) _ (by omega) (.inr ⟨i, by omega, rfl, hg, fun j' hj' g' => ?_⟩)⟩, fun q => absurd rfl q⟩
        by_cases ej : j' = i
        · subst ej; exact ⟨Nat.le_refl _, fun _ => Nat.le_refl _⟩
        · exact absurd g' (h j' (by omega))
      · obtain ⟨x1, x2⟩ := B b (by omega)
        obtain ⟨y1, y2⟩ := m2 _ x1
        have Fb := F (ord b)
        have hzb : zin (Int32.ofNat (ord b)) 65536 = true := n_zin x1 (by omega)
        have fgb := (hQ_lt hs _ _ _ (C _ x1 x2).2).2
        have hD := D b i (by omega) hi
        rw [n_cl (show ord b < 2147483648 by omega), y1, y2 x2]
        refine ⟨fun q => absurd q (n_ne1 (by omega)), fun _ => ⟨hz, hz1, hzb, fun q => ?_, fun q => ⟨hz, hz1, hzb, fun r => ?_, fun r => ⟨hz, ?_⟩⟩⟩⟩
        · have hne : ¬ far (ord i) = far (ord b) := fun r => q (by rw [r])
          refine ih (i + 1) _ (by omega) (.inr ⟨b, by omega, rfl, h2, fun j' hj' g' => ?_⟩)
          by_cases ej : j' = i
          · subst ej; exact ⟨hD, fun r => absurd r hne⟩
          · exact h3 j' (by omega) g'
        · have heq : far (ord i) = far (ord b) := (n_m1e (by omega) (by omega)).mp (Decidable.not_not.mp q)
          refine ih (i + 1) _ (by omega) (.inr ⟨b, by omega, rfl, h2, fun j' hj' g' => ?_⟩)
          by_cases ej : j' = i
          · subst ej; exact ⟨hD, fun _ => (n_le (by omega) (by omega)).mp r⟩
          · exact h3 j' (by omega) g'
        · have heq : far (ord i) = far (ord b) := (n_m1e (by omega) (by omega)).mp (Decidable.not_not.mp q)
          have hlt : fg (ord i) < fg (ord b) := Nat.lt_of_not_le (fun s' => r ((n_le (by omega) (by omega)).mpr s'))
          refine ih (i + 1) _ (by omega) (.inr ⟨i, by omega, rfl, hg, fun j' hj' g' => ?_⟩)
          by_cases ej : j' = i
          · subst ej; exact ⟨Nat.le_refl _, fun _ => Nat.le_refl _⟩
          · obtain ⟨z1, z2⟩ := h3 j' (by omega) g'
            exact ⟨by omega, fun r' => by have := z2 (by omega); omega⟩
theorem aNow_lt {n : Nat} {m : zI} {tk : Nat → List Nat} (hA : iA n m tk) : aNow m < 65536 := by
  obtain ⟨k1, k2⟩ := mKn_of hA.2.1
  obtain ⟨b1, b2⟩ := mBo_of hA.2.2.2.1
  have hpw := pow_tri _ hA.2.1
  have := hA.2.2.2.2.1.2
  exact lSt_lt (by omega) (by omega) b2
theorem t_222 {K : Int32 → zI → zJ → Prop} {tk : Nat → List Nat} {n : Nat} {mi : zI} {a : Int32} (hA : iA n mi tk) (h0 : ¬ (0 ≤ a ∧ a ≤ 1) → K (-1) mi ml)
    (h : (0 ≤ a ∧ a ≤ 1) → ∀ (mi' : zI) (v f : Int32), mT mi mi' → hIs (mLook mi tk) (aNow mi) (mWn mi) v f → K (if a = 0 then v else f) mi' ml) : TI (d + 6) 222 [.ref 0, .int a] zMS zMR mi ml K := by
  refine TI_of (B_222 _ (t_157 ⟨fun x => t_223 hA (fun come k far fg ord mi' hE hM1 hI hk => ?_), fun x => ?_⟩))
  · have ha : 0 ≤ a ∧ a ≤ 1 := Decidable.byContradiction fun y => x (by rw [if_neg y])
    have ht : mT mi mi' := (mLook_t mi tk).trans hE.1
    have ew : mWn mi' = mWn mi := by unfold mWn; rw [ht.f (by decide), mPe_u ht.u]
    refine t_222_15 (d := d + 5) (aNow_lt hA) (iP_u ht.u hA.2.1) hM1 hI hk (fun v f hv => ?_) come 0 (-1) (by omega) (.inl ⟨rfl, fun j hj => absurd hj (Nat.not_lt_zero _)⟩)
    rw [ew] at hv
    exact h ha mi' v f ht hv
  · exact h0 (fun y => by rw [if_pos y] at x; exact x (by decide))
/-- who is left, S being those who are not -/
def aLeftOf (m : zI) (S : Nat) : Int32 := (Int32.ofNat (2 ^ mPe m) - 1) &&& (Int32.ofNat S ^^^ -1)
/-- the groups gone through: those of places before i, at i those before g -/
def lfS (m : zI) (ord : Nat → Nat) (i g S : Nat) : Prop := S < 32 ∧ ∀ x, x < 5 → (S.testBit x = true ↔ ∃ j h, (j < i ∨ j = i ∧ h < g) ∧ (3 ≤ h ∧ h < 32) ∧ ¬ sOnes (Int32.ofNat h) 10 ≤ 1 ∧ hMay m (ord j) h ∧ h.testBit x = true)
theorem lfS_skip {m : zI} {ord : Nat → Nat} {i g S : Nat} (h : lfS m ord i g S) (hn : ¬ (¬ sOnes (Int32.ofNat g) 10 ≤ 1 ∧ hMay m (ord i) g)) : lfS m ord i (g + 1) S := by
  refine ⟨h.1, fun x hx => (h.2 x hx).trans ⟨?_, ?_⟩⟩
  · rintro ⟨j, q, a, b⟩
    exact ⟨j, q, by omega, b⟩
  · rintro ⟨j, q, a, b, c, e, f⟩
    refine ⟨j, q, ?_, b, c, e, f⟩
    rcases a with a | ⟨rfl, a⟩
    · exact .inl a
    · by_cases eq : q = g
      · subst eq; exact absurd ⟨c, e⟩ hn
      · exact .inr ⟨rfl, by omega⟩
theorem lfS_add {m : zI} {ord : Nat → Nat} {i g S : Nat} (h : lfS m ord i g S) (hg : 3 ≤ g ∧ g < 32) (h1 : ¬ sOnes (Int32.ofNat g) 10 ≤ 1) (h2 : hMay m (ord i) g) : lfS m ord i (g + 1) (S ||| g) := by
  refine ⟨Nat.or_lt_two_pow (n := 5) h.1 hg.2, fun x hx => ?_⟩
  rw [Nat.testBit_or, Bool.or_eq_true, h.2 x hx]
  constructor
  · rintro (⟨j, q, a, b⟩ | e)
    · exact ⟨j, q, by omega, b⟩
    · exact ⟨i, g, .inr ⟨rfl, by omega⟩, hg, h1, h2, e⟩
  · rintro ⟨j, q, a, b, c, e, f⟩
    by_cases eq : j = i ∧ q = g
    · rw [eq.2] at f; exact .inr f
    · exact .inl ⟨j, q, by omega, b, c, e, f⟩
theorem t_225_13 {Q : zQ} {m mi : zI} {come i : Nat} {far fg ord : Nat → Nat} (hE : mE m mi) (hM1 : hM come far fg ord mi) (hi : i < come) (hcl : come ≤ 65536) (hu : ord i < 65536)
    (hout : ∀ S, lfS m ord (i + 1) 3 S → Wf (d + 4) 225 7 [.ref 0, .int (Int32.ofNat S), .int (Int32.ofNat (i + 1)), .retAddr 0] [] zMS zMR mi ml Q) :
    ∀ (j g S : Nat), g + j = 32 → 3 ≤ g → lfS m ord i g S → Wf (d + 4) 225 13 [.ref 0, .int (Int32.ofNat S), .int (Int32.ofNat i), .int (Int32.ofNat g)] [] zMS zMR mi ml Q
  | 0, g, S, e, h3, h => by
    obtain rfl : g = 32 := by omega
    refine B_225_13 _ _ _ ⟨fun _ => ?_, fun x => absurd (show (32 : Int32) ≤ Int32.ofNat 32 by decide) x⟩
    rw [n_suc]
    refine hout S ⟨h.1, fun x hx => (h.2 x hx).trans ⟨?_, ?_⟩⟩
    · rintro ⟨j, q, a, b⟩; exact ⟨j, q, by omega, b⟩
    · rintro ⟨j, q, a, b⟩; exact ⟨j, q, by omega, b⟩
  | j + 1, g, S, e, h3, h => by
    have hz : zin (Int32.ofNat i) 65536 = true := n_zin (by omega) (by omega)
    obtain ⟨d1, d2, d3⟩ := n_dec hu
    refine B_225_13 _ _ _ ⟨fun x => absurd ((n_le (a := 32) (by omega) (by omega)).mp x) (by omega), fun _ => t_184 _ ?_⟩
    rw [n_suc, Int32.or_zero, n_cl (show i < 2147483648 by omega), hM1.2.2 i hi, d1, d2, d3]
    refine ⟨fun x => t_225_13 hE hM1 hi hcl hu hout j (g + 1) S (by omega) (by omega) (lfS_skip h (fun q => q.1 x)), fun x => ⟨hz, by decide, hz, by decide, by decide, hz, by decide, t_195 (by omega) ⟨fun y => ?_, fun y => ?_⟩⟩⟩
    · exact t_225_13 hE hM1 hi hcl hu hout j (g + 1) S (by omega) (by omega) (lfS_skip h (fun q => by rw [if_pos ((hMay_e hE (by omega)).mpr q.2)] at y; exact absurd y (by decide)))
    · rw [n_or]
      exact t_225_13 hE hM1 hi hcl hu hout j (g + 1) _ (by omega) (by omega) (lfS_add h ⟨h3, by omega⟩ x ((hMay_e hE (by omega)).mp (Decidable.byContradiction fun q => y (by rw [if_neg q]))))
theorem t_225 {K : Int32 → zI → zJ → Prop} {tk : Nat → List Nat} {n : Nat} {mi : zI} (hA : iA n mi tk)
    (h : ∀ (mi' : zI) (S : Nat), mT mi mi' → lfIs (mLook mi tk) (aNow mi) S → K (aLeftOf mi S) mi' ml) : TI (d + 6) 225 [.ref 0] zMS zMR mi ml K := by
  refine TI_of (B_225 (t_223 hA (fun come k far fg ord mi' hE hM1 hI hk => ?_)))
  have ht : mT mi mi' := (mLook_t mi tk).trans hE.1
  have hcl := hInv_le hI
  have hs := aNow_lt hA
  have hall := hInv_all hs hk hI
  obtain ⟨q1, q2⟩ := iP_of (iP_u ht.u hA.2.1)
  have loop : ∀ (j i S : Nat), i + j = come → lfS (mLook mi tk) ord i 3 S → Wf (d + 6) 225 7 [.ref 0, .int (Int32.ofNat S), .int (Int32.ofNat i), .retAddr 0] [] zMS zMR mi' ml (qI K) := by
    intro j
    induction j with
    | zero =>
      intro i S e hS
      refine B_225_7 _ _ ?_
      rw [hM1.1]
      refine ⟨fun _ => ?_, fun x => absurd ((n_le (by omega) (by omega)).mpr (by omega)) x⟩
      have := h mi' S ht ⟨hS.1, fun x hx => (hS.2 x hx).trans ⟨?_, ?_⟩⟩
      · rw [q1, n_pow _ (by omega), mPe_u ht.u]; exact this
      · rintro ⟨j, q, a, b, c⟩
        have hj : j < come := by omega
        obtain ⟨b1, b2⟩ := hI.2.1 j hj
        exact ⟨_, _, _, q, (hI.2.2.1 _ b1 b2).2, b, c⟩
      · rintro ⟨N, F, t, q, a, b, c⟩
        obtain ⟨⟨j, hj, rfl⟩, -⟩ := hI.2.2.1 t (hQ_lt hs N F t a).1 (hall N F t a).1
        exact ⟨j, q, .inl (by omega), b, c⟩
    | succ j ih =>
      intro i S e hS
      refine B_225_7 _ _ ?_
      rw [hM1.1]
      refine ⟨fun x => absurd ((n_le (by omega) (by omega)).mp x) (by omega), fun _ => ?_⟩
      exact t_225_13 (d := d + 2) hE hM1 (by omega) hcl (hI.2.1 i (by omega)).1 (fun S' hS' => ih (i + 1) S' (by omega) hS') 29 3 S rfl (by decide) hS
  refine loop come 0 0 (by omega) ⟨by decide, fun x _ => ⟨fun q => ?_, ?_⟩⟩
  · rw [Nat.zero_testBit] at q; exact absurd q (by decide)
  · rintro ⟨j, q, a, b, c⟩; omega
end HOMELEFT
