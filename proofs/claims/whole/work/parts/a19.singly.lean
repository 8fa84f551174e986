/-! The class: goSingly, goTogether. -/
def cT (x : Int32) : Nat → Nat
  | 0 => 0
  | n + 1 => cT x n + if tB x n then 1 else 0
theorem cT_le (x : Int32) : ∀ n, cT x n ≤ n
  | 0 => Nat.le_refl _
  | n + 1 => by
    have := cT_le x n
    rw [cT]
    split <;> omega
theorem cT_mono {x y : Int32} : ∀ n, (∀ w, w < n → tB x w → tB y w) → cT x n ≤ cT y n ∧ (cT x n = cT y n → ∀ w, w < n → tB y w → tB x w)
  | 0, _ => ⟨Nat.le_refl _, fun _ w hw => absurd hw (Nat.not_lt_zero _)⟩
  | n + 1, h => by
    obtain ⟨h1, h2⟩ := cT_mono n (fun w hw => h w (by omega))
    have hn := h n (by omega)
    rw [cT, cT]
    by_cases a : tB x n
    · rw [if_pos a, if_pos (hn a)]
      refine ⟨by omega, fun e w hw q => ?_⟩
      by_cases ew : w = n
      · subst ew; exact a
      · exact h2 (by omega) w (by omega) q
    · rw [if_neg a]
      by_cases b : tB y n
      · rw [if_pos b]
        exact ⟨by omega, fun e => by omega⟩
      · rw [if_neg b]
        refine ⟨by omega, fun e w hw q => ?_⟩
        by_cases ew : w = n
        · subst ew; exact absurd q b
        · exact h2 (by omega) w (by omega) q
theorem cT_pos {x : Int32} {w : Nat} : ∀ n, w < n → tB x w → 1 ≤ cT x n
  | 0, h, _ => absurd h (Nat.not_lt_zero _)
  | n + 1, h, q => by
    rw [cT]
    by_cases e : w = n
    · subst e; rw [if_pos q]; omega
    · have := cT_pos n (show w < n by omega) q
      omega
def iSg (Gs : List Nat) (C k : Nat) (z o : Int32) (R : Nat → Nat → Prop) (c0 c : zI) : Prop :=
  (∀ w, w < 32 → tB z w → tB (c 21 C) w) ∧ (∀ w, w < 32 → tB o w → tB (c 22 C) w) ∧
  (∀ g, g ∈ Gs.take k → gpN g = 0 → (∀ w, w < 32 → sdP 0 g w → tB z (w ^^^ g) → tB (c 22 C) w) ∧ (∀ w, w < 32 → sdP 1 g w → tB o (w ^^^ g) → tB (c 21 C) w)) ∧
  (∀ w, w < 32 → (tB (c 21 C) w → R 0 w) ∧ (tB (c 22 C) w → R 1 w)) ∧
  (∀ x K, ¬ ((x = 21 ∨ x = 22) ∧ K = C) → c x K = c0 x K)
section SINGLY
variable {d : Nat} {X : zS} {fr nx : Nat} {P : zR0} {lc : zJ} {Gs : List Nat} {C : Nat} {c0 : zI} {R : Nat → Nat → Prop}
theorem t_107_29 {Q : zQ} {r : Nat} {z o : Int32} (hC : C < 1024) (hGs : gAt c0 Gs) (hlen : Gs.length < 32) (hg32 : ∀ g, g ∈ Gs → g < 32)
    (hR : ∀ g, g ∈ Gs → gpN g = 0 → ∀ w, w < 32 → (R 0 w → sdP 1 g w → R 1 (w ^^^ g)) ∧ (R 1 w → sdP 0 g w → R 0 (w ^^^ g)))
    (hend : ∀ c, iSg Gs C Gs.length z o R c0 c → (z = c 21 C → o = c 22 C → Wf (d + 2) 107 7 [.ref 17, .int (Int32.ofNat C), .int 0, .int (Int32.ofNat (r + 1)), .retAddr 0, .retAddr 0, .retAddr 0] [] (zCS ++ X) (zCR fr nx P) c lc Q) ∧ (¬ (z = c 21 C ∧ o = c 22 C) → Wf (d + 2) 107 7 [.ref 17, .int (Int32.ofNat C), .int 1, .int (Int32.ofNat (r + 1)), .retAddr 0, .retAddr 0, .retAddr 0] [] (zCS ++ X) (zCR fr nx P) c lc Q)) :
    ∀ (j k : Nat) (c : zI), k + j = Gs.length → iSg Gs C k z o R c0 c → Wf (d + 2) 107 29 [.ref 17, .int (Int32.ofNat C), .retAddr 0, .int (Int32.ofNat r), .int z, .int o, .int (Int32.ofNat k)] [] (zCS ++ X) (zCR fr nx P) c lc Q
  | j, k, c, e, hI => by
    have hI' := hI
    obtain ⟨i1, i2, i3, i4, i5⟩ := hI'
    have e4 : c 17 4 = Int32.ofNat Gs.length := by rw [i5 17 4 (by omega)]; exact hGs.1
    have hz := n_zin (k := C) (n := 1024) hC (by decide)
    have cC := n_cl (show C < 2147483648 by omega)
    have ends : k = Gs.length → (zin 0 2 = true ∧ (zin (Int32.ofNat C) 1024 = true ∧ ((z ≠ c 21 (Int32.ofNat C).toNatClampNeg → Wf (d + 2) 107 7 [.ref 17, .int (Int32.ofNat C), .int 1, .int (Int32.ofNat r + 1), .retAddr 0, .retAddr 0, .retAddr 0] [] (zCS ++ X) (zCR fr nx P) c lc Q) ∧ (¬ z ≠ c 21 (Int32.ofNat C).toNatClampNeg → (zin 1 2 = true ∧ (zin (Int32.ofNat C) 1024 = true ∧ ((o = c 22 (Int32.ofNat C).toNatClampNeg → Wf (d + 2) 107 7 [.ref 17, .int (Int32.ofNat C), .int 0, .int (Int32.ofNat r + 1), .retAddr 0, .retAddr 0, .retAddr 0] [] (zCS ++ X) (zCR fr nx P) c lc Q) ∧ (¬ o = c 22 (Int32.ofNat C).toNatClampNeg → Wf (d + 2) 107 7 [.ref 17, .int (Int32.ofNat C), .int 1, .int (Int32.ofNat r + 1), .retAddr 0, .retAddr 0, .retAddr 0] [] (zCS ++ X) (zCR fr nx P) c lc Q)))))))) := fun q => by
      subst q
      obtain ⟨h1, h2⟩ := hend c hI
      rw [cC, n_suc]
      exact ⟨by decide, hz, fun u => h2 (fun z => u z.1), fun u => ⟨by decide, hz, fun v => h1 (Decidable.not_not.mp u) v, fun v => h2 (fun z => v z.2)⟩⟩
    refine B_107_29 _ _ _ _ _ ⟨fun q => ends ?_, fun q => ⟨fun q2 => absurd ((n_le (a := 32) (by decide) (by omega)).mp q2) (by omega), fun _ => ?_⟩⟩
    · rw [e4] at q
      have := (n_le (by omega) (by omega)).mp q
      omega
    · rw [e4] at q
      have hk : k < Gs.length := Nat.lt_of_not_le (fun z => q ((n_le (by omega) (by omega)).mpr z))
      obtain ⟨j, rfl⟩ : ∃ i, j = i + 1 := ⟨j - 1, by omega⟩
      have e19 : ∀ c' : zI, (∀ x K, ¬ ((x = 21 ∨ x = 22) ∧ K = C) → c' x K = c0 x K) → c' 19 k = Int32.ofNat (Gs.getD k 0) := fun c' h => by rw [h 19 k (by omega)]; exact hGs.2 k hk
      have suc := fun g => mem_take_suc (Gs := Gs) (k := k) (g := g) hk
      have hmem : Gs.getD k 0 ∈ Gs := by
        rw [List.getD_eq_getElem?_getD, List.getElem?_eq_getElem hk]
        exact List.getElem_mem hk
      generalize Gs.getD k 0 = g at suc hmem e19
      have hg : g < 32 := hg32 g hmem
      obtain ⟨p1, p2⟩ := gpN_ok g hg
      have hz19 := n_zin (k := k) (n := 32) (by omega) (by decide)
      have hp0 : gPairs g = 0 ↔ gpN g = 0 := by
        rw [p1]; exact n_eq (b := 0) (by omega) (by decide)
      refine ⟨hz19, ?_⟩
      rw [n_cl (show k < 2147483648 by omega), cC, e19 c i5]
      refine t_75 hg ⟨fun u => ?_, fun u => ⟨by decide, hz, by decide, hz, hz19, ?_⟩⟩
      · rw [n_suc]
        refine t_107_29 hC hGs hlen hg32 hR hend j (k + 1) c (by omega) ⟨i1, i2, fun g' hg' h0 => ?_, i4, i5⟩
        rcases (suc g').mp hg' with q | q
        · exact i3 g' q h0
        · rw [q] at h0; exact absurd (hp0.mpr h0) u
      · have g0 : gpN g = 0 := hp0.mp (Decidable.not_not.mp u)
        rw [e19 c i5]
        refine t_101 (a := 0) hg (by decide) (fun v2 hv2 => ⟨hz, by decide, hz, by decide, hz, hz19, ?_⟩)
        rw [e19 c i5, zu_eq]
        refine t_101 (a := 1) hg (by decide) (fun v3 hv3 => ⟨hz, ?_⟩)
        rw [n_suc]
        have m1 : ∀ w, w < 32 → tB v2 w → R 1 w := fun w hw q => by
          obtain ⟨q1, q2⟩ := (hv2 w hw).mp q
          have := (hR g hmem g0 (w ^^^ g) (xor_32 hw hg)).1 ((i4 _ (xor_32 hw hg)).1 q2) ((sdP_x g hg w hw 0 (by decide)).mpr q1)
          rw [xor_b] at this
          exact this
        have m2 : ∀ w, w < 32 → tB (c 22 C ||| v2) w → R 1 w := fun w hw q => ((tB_or _ _ _).mp q).elim (i4 w hw).2 (m1 w hw)
        have m3 : ∀ w, w < 32 → tB v3 w → R 0 w := fun w hw q => by
          obtain ⟨q1, q2⟩ := (hv3 w hw).mp q
          have := (hR g hmem g0 (w ^^^ g) (xor_32 hw hg)).2 (m2 _ (xor_32 hw hg) q2) ((sdP_x g hg w hw 1 (by decide)).mpr q1)
          rw [xor_b] at this
          exact this
        refine t_107_29 hC hGs hlen hg32 hR hend j (k + 1) _ (by omega) ⟨fun w hw q => ?_, fun w hw q => ?_, fun g' hg' h0 => ?_, fun w hw => ⟨fun q => ?_, fun q => ?_⟩, fun x K hx => ?_⟩
        · rw [zu_eq, tB_or]; exact .inl (i1 w hw q)
        · rw [zu_nc (by decide), zu_eq, tB_or]; exact .inl (i2 w hw q)
        · rw [zu_nc (by decide), zu_eq, zu_eq]
          rcases (suc g').mp hg' with q | q
          · obtain ⟨a1, a2⟩ := i3 g' q h0
            exact ⟨fun w hw b1 b2 => (tB_or _ _ _).mpr (.inl (a1 w hw b1 b2)), fun w hw b1 b2 => (tB_or _ _ _).mpr (.inl (a2 w hw b1 b2))⟩
          · subst q
            refine ⟨fun w hw b1 b2 => (tB_or _ _ _).mpr (.inr ((hv2 w hw).mpr ⟨b1, i1 _ (xor_32 hw hg) b2⟩)), fun w hw b1 b2 => (tB_or _ _ _).mpr (.inr ((hv3 w hw).mpr ⟨b1, ?_⟩))⟩
            exact (tB_or _ _ _).mpr (.inl (i2 _ (xor_32 hw hg) b2))
        · rw [zu_eq, tB_or] at q
          exact q.elim (i4 w hw).1 (m3 w hw)
        · rw [zu_nc (by decide), zu_eq] at q
          exact m2 w hw q
        · rw [zu_ne (by omega), zu_ne (by omega)]; exact i5 x K hx
/-- closed under those who go alone -/
def iCl (Gs : List Nat) (C : Nat) (c : zI) : Prop := ∀ g, g ∈ Gs → gpN g = 0 → (∀ w, w < 32 → sdP 0 g w → tB (c 21 C) (w ^^^ g) → tB (c 22 C) w) ∧ (∀ w, w < 32 → sdP 1 g w → tB (c 22 C) (w ^^^ g) → tB (c 21 C) w)
def iGr (C : Nat) (R : Nat → Nat → Prop) (c0 c : zI) : Prop := (∀ w, w < 32 → (tB (c0 21 C) w → tB (c 21 C) w) ∧ (tB (c0 22 C) w → tB (c 22 C) w)) ∧ (∀ w, w < 32 → (tB (c 21 C) w → R 0 w) ∧ (tB (c 22 C) w → R 1 w)) ∧ (∀ x K, ¬ ((x = 21 ∨ x = 22) ∧ K = C) → c x K = c0 x K)
theorem t_107_7 {Q : zQ} (hC : C < 1024) (hGs : gAt c0 Gs) (hlen : Gs.length < 32) (hg32 : ∀ g, g ∈ Gs → g < 32)
    (hR : ∀ g, g ∈ Gs → gpN g = 0 → ∀ w, w < 32 → (R 0 w → sdP 1 g w → R 1 (w ^^^ g)) ∧ (R 1 w → sdP 0 g w → R 0 (w ^^^ g)))
    (h : ∀ c, iGr C R c0 c → iCl Gs C c → Q none c lc) :
    ∀ (j r : Nat) (c : zI), r + j = 64 → iGr C R c0 c → r + 1 ≤ cT (c 21 C) 32 + cT (c 22 C) 32 → Wf (d + 2) 107 7 [.ref 17, .int (Int32.ofNat C), .int 1, .int (Int32.ofNat r), .retAddr 0, .retAddr 0, .retAddr 0] [] (zCS ++ X) (zCR fr nx P) c lc Q
  | 0, r, c, e, hI, hn => by
    have := cT_le (c 21 C) 32
    have := cT_le (c 22 C) 32
    omega
  | j + 1, r, c, e, hI, hn => by
    obtain ⟨i1, i2, i3⟩ := hI
    have hz := n_zin (k := C) (n := 1024) hC (by decide)
    have cC := n_cl (show C < 2147483648 by omega)
    refine B_107_7 _ _ _ ⟨fun q => absurd ((n_le (a := 64) (by decide) (by omega)).mp q) (by omega), fun _ => ⟨fun q => absurd q (by decide), fun _ => ⟨by decide, hz, by decide, hz, ?_⟩⟩⟩
    rw [cC]
    refine t_107_29 (d := d) (R := R) (c0 := c0) hC hGs hlen hg32 hR (fun c1 hS => ?_) Gs.length 0 c (by omega) ⟨fun w hw q => q, fun w hw q => q, fun g hg => by simp at hg, i2, i3⟩
    obtain ⟨s1, s2, s3, s4, s5⟩ := hS
    have hG1 : iGr C R c0 c1 := ⟨fun w hw => ⟨fun q => s1 w hw ((i1 w hw).1 q), fun q => s2 w hw ((i1 w hw).2 q)⟩, s4, s5⟩
    refine ⟨fun ez eo => ?_, fun ne => ?_⟩
    · refine B_107_7 _ _ _ ⟨fun q => ?_, fun _ => ⟨fun _ => ?_, fun q => absurd rfl q⟩⟩
      all_goals
        refine h c1 hG1 (fun g hg h0 => ?_)
        have := s3 g (by rw [List.take_length]; exact hg) h0
        rw [ez, eo] at this
        exact this
    · refine t_107_7 hC hGs hlen hg32 hR h j (r + 1) c1 (by omega) hG1 ?_
      obtain ⟨m1, m2⟩ := cT_mono 32 s1
      obtain ⟨m3, m4⟩ := cT_mono 32 s2
      refine Nat.lt_of_not_le (fun z => ne ⟨?_, ?_⟩)
      · exact tB_ext (fun w hw => ⟨s1 w hw, m2 (by omega) w hw⟩)
      · exact tB_ext (fun w hw => ⟨s2 w hw, m4 (by omega) w hw⟩)
theorem t_107 {K : zI → zJ → Prop} {c : zI} (hC : C < 1024) (hGs : gAt c Gs) (hlen : Gs.length < 32) (hg32 : ∀ g, g ∈ Gs → g < 32)
    (hR : ∀ g, g ∈ Gs → gpN g = 0 → ∀ w, w < 32 → (R 0 w → sdP 1 g w → R 1 (w ^^^ g)) ∧ (R 1 w → sdP 0 g w → R 0 (w ^^^ g)))
    (h0 : ∀ w, w < 32 → (tB (c 21 C) w → R 0 w) ∧ (tB (c 22 C) w → R 1 w)) (hne : ¬ (c 21 C ||| c 22 C) = 0)
    (h : ∀ c', iGr C R c c' → iCl Gs C c' → K c' lc) : TV (d + 2) 107 [.ref 17, .int (Int32.ofNat C)] (zCS ++ X) (zCR fr nx P) c lc K := by
  refine TV_of (B_107 _ (t_107_7 (c0 := c) (R := R) hC hGs hlen hg32 hR h 64 0 c rfl ⟨fun w hw => ⟨id, id⟩, h0, fun _ _ _ => rfl⟩ ?_))
  obtain ⟨w, hw, q⟩ := tB_n.mp hne
  rcases (tB_or _ _ _).mp q with q | q
  · have := cT_pos 32 hw q; omega
  · have := cT_pos 32 hw q; omega
/-- what goTogether has added -/
def iTg (Gs : List Nat) (C k : Nat) (T : Nat) (c0 c : zI) : Prop :=
  (∀ a, a < 2 → ∀ K, K < 1024 → ∀ w, w < 32 → (tB (c (22 - a) K) w ↔ tB (c0 (22 - a) K) w ∨ ∃ g, g ∈ Gs.take k ∧ gpN g ≠ 0 ∧ gpN g &&& C = 0 ∧ K = C ||| gpN g ∧ sdP a g w ∧ tB (c0 (21 + a) C) (w ^^^ g))) ∧
  (T < 32 ∧ ∀ x, x < 5 → (T.testBit x = true ↔ ∃ g, g ∈ Gs.take k ∧ gpN g ≠ 0 ∧ gpN g &&& C = 0 ∧ (∃ a w, a < 2 ∧ w < 32 ∧ sdP a g w ∧ tB (c0 (21 + a) C) (w ^^^ g)) ∧ g.testBit x = true)) ∧
  ∀ x K, x ≠ 21 → x ≠ 22 → c x K = c0 x K
theorem or_self0 {C g : Nat} (h : g &&& C = 0) (h0 : g ≠ 0) : C ||| g ≠ C := fun e => by
  obtain ⟨-, b2⟩ := bt_2 h
  rw [e] at b2
  have : g = 0 := by
    have : C ^^^ (C ^^^ g) = C ^^^ C := by rw [b2]
    rw [← Nat.xor_assoc, Nat.xor_self, Nat.zero_xor] at this
    exact this
  exact h0 this
theorem t_108_7 {Q : zQ} (hC : C < 1024) (hGs : gAt c0 Gs) (hlen : Gs.length < 32) (hg32 : ∀ g, g ∈ Gs → g < 32)
    (h : ∀ c T, iTg Gs C Gs.length T c0 c → Q (some (.int (Int32.ofNat T))) c lc) :
    ∀ (j k T : Nat) (c : zI), k + j = Gs.length → iTg Gs C k T c0 c → Wf (d + 2) 108 7 [.ref 17, .int (Int32.ofNat C), .int (Int32.ofNat T), .int (Int32.ofNat k), .retAddr 0, .retAddr 0, .retAddr 0] [] (zCS ++ X) (zCR fr nx P) c lc Q
  | j, k, T, c, e, hI => by
    have hI' := hI
    obtain ⟨i1, ⟨i2, i3⟩, i5⟩ := hI'
    have e4 : c 17 4 = Int32.ofNat Gs.length := by rw [i5 17 4 (by omega) (by omega)]; exact hGs.1
    have hz := n_zin (k := C) (n := 1024) hC (by decide)
    have cC := n_cl (show C < 2147483648 by omega)
    have ends : k = Gs.length → Q (some (.int (Int32.ofNat T))) c lc := fun q => by subst q; exact h c T hI
    refine B_108_7 _ _ _ ⟨fun q => ends ?_, fun q => ⟨fun q2 => absurd ((n_le (a := 32) (by decide) (by omega)).mp q2) (by omega), fun _ => ?_⟩⟩
    · rw [e4] at q
      have := (n_le (by omega) (by omega)).mp q
      omega
    · rw [e4] at q
      have hk : k < Gs.length := Nat.lt_of_not_le (fun z => q ((n_le (by omega) (by omega)).mpr z))
      obtain ⟨j, rfl⟩ : ∃ i, j = i + 1 := ⟨j - 1, by omega⟩
      have e19 : c 19 k = Int32.ofNat (Gs.getD k 0) := by rw [i5 19 k (by omega) (by omega)]; exact hGs.2 k hk
      have suc := fun g => mem_take_suc (Gs := Gs) (k := k) (g := g) hk
      have hmem : Gs.getD k 0 ∈ Gs := by
        rw [List.getD_eq_getElem?_getD, List.getElem?_eq_getElem hk]
        exact List.getElem_mem hk
      generalize Gs.getD k 0 = g at suc hmem e19
      have hg : g < 32 := hg32 g hmem
      obtain ⟨p1, p2⟩ := gpN_ok g hg
      have hz19 := n_zin (k := k) (n := 32) (by omega) (by decide)
      have hp0 : gPairs g = 0 ↔ gpN g = 0 := by
        rw [p1]; exact n_eq (b := 0) (by omega) (by decide)
      have hand : gPairs g &&& Int32.ofNat C = 0 ↔ gpN g &&& C = 0 := by
        rw [p1, n_and]
        exact n_eq (b := 0) (Nat.lt_of_le_of_lt Nat.and_le_right (by omega)) (by decide)
      have skip : ¬ (gpN g ≠ 0 ∧ gpN g &&& C = 0) → Wf (d + 2) 108 7 [.ref 17, .int (Int32.ofNat C), .int (Int32.ofNat T), .int (Int32.ofNat k + 1), .retAddr 0, .retAddr 0, .retAddr 0] [] (zCS ++ X) (zCR fr nx P) c lc Q := fun u => by
        rw [n_suc]
        refine t_108_7 hC hGs hlen hg32 h j (k + 1) T c (by omega) ⟨fun a ha K hK w hw => (i1 a ha K hK w hw).trans ?_, ⟨i2, fun x hx => (i3 x hx).trans ?_⟩, i5⟩
        · exact ⟨fun z => z.elim .inl (fun ⟨g', y, y2⟩ => .inr ⟨g', (suc g').mpr (.inl y), y2⟩), fun z => z.elim .inl (fun ⟨g', y, y1, y2, y3⟩ => .inr ⟨g', ((suc g').mp y).elim id (fun t => by rw [t] at y1 y2; exact absurd ⟨y1, y2⟩ u), y1, y2, y3⟩)⟩
        · exact ⟨fun ⟨g', y, y2⟩ => ⟨g', (suc g').mpr (.inl y), y2⟩, fun ⟨g', y, y1, y2, y3⟩ => ⟨g', ((suc g').mp y).elim id (fun t => by rw [t] at y1 y2; exact absurd ⟨y1, y2⟩ u), y1, y2, y3⟩⟩
      refine ⟨hz19, ?_⟩
      rw [n_cl (show k < 2147483648 by omega), cC, e19]
      refine t_75 hg ⟨fun u => skip (fun z => z.1 (hp0.mp u)), fun u => ⟨fun v => skip (fun z => v (hand.mpr z.2)), fun v => ⟨by decide, hz, hz19, ?_⟩⟩⟩
      have g0 : gpN g ≠ 0 := fun z => u (hp0.mpr z)
      have gC : gpN g &&& C = 0 := hand.mp (Decidable.not_not.mp v)
      have hKn : C ||| gpN g < 1024 := Nat.or_lt_two_pow (n := 10) hC p2
      have hne := or_self0 gC g0
      have hzk := n_zin (k := C ||| gpN g) (n := 1024) hKn (by decide)
      have cK := n_cl (show C ||| gpN g < 2147483648 by omega)
      -- the places of C itself stay
      have st : ∀ a, a < 2 → ∀ w, w < 32 → (tB (c (21 + a) C) w ↔ tB (c0 (21 + a) C) w) := fun a ha w hw => by
        have := i1 (1 - a) (by omega) C hC w hw
        rw [show 22 - (1 - a) = 21 + a by omega] at this
        refine this.trans ⟨fun z => z.elim id (fun ⟨g', y, y1, y2, y3, _⟩ => absurd y3.symm (or_self0 y2 y1)), .inl⟩
      rw [e19]
      refine t_101 (a := 0) hg (by decide) (fun v2 hv2 => ⟨by decide, hz, hz19, ?_⟩)
      rw [e19]
      refine t_101 (a := 1) hg (by decide) (fun v3 hv3 => ⟨by decide, ?_⟩)
      rw [p1, n_or, cK]
      refine ⟨hzk, hzk, by decide, hzk, hzk, ?_⟩
      have hv2' : ∀ w, w < 32 → (tB v2 w ↔ sdP 0 g w ∧ tB (c0 (21 + 0) C) (w ^^^ g)) := fun w hw => by rw [hv2 w hw, ← st 0 (by decide) _ (xor_32 hw hg)]
      have hv3' : ∀ w, w < 32 → (tB v3 w ↔ sdP 1 g w ∧ tB (c0 (21 + 1) C) (w ^^^ g)) := fun w hw => by rw [hv3 w hw, ← st 1 (by decide) _ (xor_32 hw hg)]
      have hmemo : ∀ a, a < 2 → ∀ K, K < 1024 → ∀ w, w < 32 → (tB (zu (zu c 22 (C ||| gpN g) (c 22 (C ||| gpN g) ||| v2)) 21 (C ||| gpN g) (c 21 (C ||| gpN g) ||| v3) (22 - a) K) w ↔ tB (c0 (22 - a) K) w ∨ ∃ g', g' ∈ Gs.take (k + 1) ∧ gpN g' ≠ 0 ∧ gpN g' &&& C = 0 ∧ K = C ||| gpN g' ∧ sdP a g' w ∧ tB (c0 (21 + a) C) (w ^^^ g')) := by
        intro a ha K hK w hw
        have old := i1 a ha K hK w hw
        have split1 : (∃ g', g' ∈ Gs.take (k + 1) ∧ gpN g' ≠ 0 ∧ gpN g' &&& C = 0 ∧ K = C ||| gpN g' ∧ sdP a g' w ∧ tB (c0 (21 + a) C) (w ^^^ g')) ↔ (∃ g', g' ∈ Gs.take k ∧ gpN g' ≠ 0 ∧ gpN g' &&& C = 0 ∧ K = C ||| gpN g' ∧ sdP a g' w ∧ tB (c0 (21 + a) C) (w ^^^ g')) ∨ (K = C ||| gpN g ∧ sdP a g w ∧ tB (c0 (21 + a) C) (w ^^^ g)) := by
          constructor
          · rintro ⟨g', y, y1, y2, y3, y4, y5⟩
            rcases (suc g').mp y with t | t
            · exact .inl ⟨g', t, y1, y2, y3, y4, y5⟩
            · subst t; exact .inr ⟨y3, y4, y5⟩
          · rintro (⟨g', y, y'⟩ | ⟨y3, y4, y5⟩)
            · exact ⟨g', (suc g').mpr (.inl y), y'⟩
            · exact ⟨g, (suc g).mpr (.inr rfl), g0, gC, y3, y4, y5⟩
        rw [split1, ← or_assoc, ← old]
        have ca : a = 0 ∨ a = 1 := by omega
        rcases ca with rfl | rfl
        · rw [zu_nc (by decide)]
          by_cases eK : K = C ||| gpN g
          · subst eK
            show tB (zu c 22 (C ||| gpN g) (c 22 (C ||| gpN g) ||| v2) 22 (C ||| gpN g)) w ↔ _
            rw [zu_eq, tB_or, hv2' w hw]
            exact ⟨fun z => z.elim .inl (fun y => .inr ⟨rfl, y⟩), fun z => z.elim .inl (fun y => .inr y.2)⟩
          · rw [zu_nk eK]
            exact ⟨.inl, fun z => z.elim id (fun y => absurd y.1 eK)⟩
        · by_cases eK : K = C ||| gpN g
          · subst eK
            show tB (zu _ 21 (C ||| gpN g) (c 21 (C ||| gpN g) ||| v3) 21 (C ||| gpN g)) w ↔ _
            rw [zu_eq, tB_or, hv3' w hw]
            exact ⟨fun z => z.elim .inl (fun y => .inr ⟨rfl, y⟩), fun z => z.elim .inl (fun y => .inr y.2)⟩
          · rw [zu_nk eK, zu_nc (by decide)]
            exact ⟨.inl, fun z => z.elim id (fun y => absurd y.1 eK)⟩
      have hfr : ∀ x K, x ≠ 21 → x ≠ 22 → zu (zu c 22 (C ||| gpN g) (c 22 (C ||| gpN g) ||| v2)) 21 (C ||| gpN g) (c 21 (C ||| gpN g) ||| v3) x K = c0 x K := fun x K h1 h2 => by
        rw [zu_nc h1, zu_nc h2]; exact i5 x K h1 h2
      have hsome : ¬ v2 ||| v3 = 0 ↔ ∃ a w, a < 2 ∧ w < 32 ∧ sdP a g w ∧ tB (c0 (21 + a) C) (w ^^^ g) := by
        rw [tB_n]
        constructor
        · rintro ⟨w, hw, q⟩
          rcases (tB_or _ _ _).mp q with q | q
          · exact ⟨0, w, by decide, hw, (hv2' w hw).mp q⟩
          · exact ⟨1, w, by decide, hw, (hv3' w hw).mp q⟩
        · rintro ⟨a, w, ha, hw, q⟩
          have ca : a = 0 ∨ a = 1 := by omega
          rcases ca with rfl | rfl
          · exact ⟨w, hw, (tB_or _ _ _).mpr (.inl ((hv2' w hw).mpr q))⟩
          · exact ⟨w, hw, (tB_or _ _ _).mpr (.inr ((hv3' w hw).mpr q))⟩
      refine ⟨fun y => ?_, fun y => ⟨hz19, ?_⟩⟩
      · rw [n_suc, Int32.or_zero]
        refine t_108_7 hC hGs hlen hg32 h j (k + 1) T _ (by omega) ⟨hmemo, ⟨i2, fun x hx => (i3 x hx).trans ?_⟩, hfr⟩
        exact ⟨fun ⟨g', z, z2⟩ => ⟨g', (suc g').mpr (.inl z), z2⟩, fun ⟨g', z, z1, z2, z3, z4⟩ => ⟨g', ((suc g').mp z).elim id (fun t => by rw [t] at z3; exact absurd y (hsome.mpr z3)), z1, z2, z3, z4⟩⟩
      · rw [e19, n_or, n_suc]
        refine t_108_7 hC hGs hlen hg32 h j (k + 1) (T ||| g) _ (by omega) ⟨hmemo, ⟨Nat.or_lt_two_pow (n := 5) i2 hg, fun x hx => ?_⟩, hfr⟩
        rw [Nat.testBit_or, Bool.or_eq_true, i3 x hx]
        constructor
        · rintro (⟨g', z, z2⟩ | z)
          · exact ⟨g', (suc g').mpr (.inl z), z2⟩
          · exact ⟨g, (suc g).mpr (.inr rfl), g0, gC, hsome.mp y, z⟩
        · rintro ⟨g', z, z1, z2, z3, z4⟩
          rcases (suc g').mp z with t | t
          · exact .inl ⟨g', t, z1, z2, z3, z4⟩
          · subst t; exact .inr z4
theorem t_108 {K : Int32 → zI → zJ → Prop} {c : zI} (hC : C < 1024) (hGs : gAt c Gs) (hlen : Gs.length < 32) (hg32 : ∀ g, g ∈ Gs → g < 32)
    (h : ∀ c' T, iTg Gs C Gs.length T c c' → K (Int32.ofNat T) c' lc) : TI (d + 2) 108 [.ref 17, .int (Int32.ofNat C)] (zCS ++ X) (zCR fr nx P) c lc K := by
  refine TI_of (B_108 _ (t_108_7 (c0 := c) (Q := qI K) hC hGs hlen hg32 h Gs.length 0 0 c (by omega) ⟨fun a ha K hK w hw => ?_, ⟨by decide, fun x hx => ?_⟩, fun _ _ _ _ => rfl⟩))
  · exact ⟨.inl, fun z => z.elim id (fun ⟨g, y, _⟩ => by simp at y)⟩
  · rw [Nat.zero_testBit]
    exact ⟨fun z => absurd z (by decide), fun ⟨g, y, _⟩ => by simp at y⟩
end SINGLY
