/-! The model: comesOn, home, left. -/
/-- the search as it lies in the memory -/
def hM (come : Nat) (far fg ord : Nat → Nat) (mi : zI) : Prop := mi 0 47 = Int32.ofNat come ∧ (∀ t, t < 65536 → mi 28 t = Int32.ofNat (far t) - 1 ∧ (1 ≤ far t → mi 29 t = Int32.ofNat (fg t))) ∧ ∀ i, i < come → mi 30 i = Int32.ofNat (ord i)
theorem n_m1 {k : Nat} (h : 1 ≤ k) : Int32.ofNat k - 1 = Int32.ofNat (k - 1) := by
  obtain ⟨x, rfl⟩ : ∃ x, k = x + 1 := ⟨k - 1, by omega⟩
  rw [n_pred]; rfl
theorem n_m1e {a b : Nat} (ha : a < 2147483648) (hb : b < 2147483648) : Int32.ofNat a - 1 = Int32.ofNat b - 1 ↔ a = b := by
  constructor
  · intro h
    have : Int32.ofNat a = Int32.ofNat b := by
      have := congrArg (· + 1) h
      simpa using this
    exact (n_eq ha hb).mp this
  · intro h; rw [h]
theorem n_m1n {a : Nat} (ha : a < 2147483648) : Int32.ofNat a - 1 = -1 ↔ a = 0 := by
  have : (-1 : Int32) = Int32.ofNat 0 - 1 := by decide
  rw [this, n_m1e ha (by decide)]
theorem n_m1z {a : Nat} (ha : a < 2147483648) : Int32.ofNat a - 1 = 0 ↔ a = 1 := by
  have : (0 : Int32) = Int32.ofNat 1 - 1 := by decide
  rw [this, n_m1e ha (by decide)]
theorem hMay_e {m mi : zI} (h : mE m mi) {s g : Nat} (hg : g < 32) : mMay mi g (Int32.ofNat (s / 64)) (Int32.ofNat (s / 2 % 32)) (Int32.ofNat (s % 2)) ↔ hMay m s g := by
  unfold hMay mMay; rw [(h.2 g hg).1, (h.2 g hg).2]
section HOME
variable {d : Nat} {ml : zJ}
theorem t_224 {K : zI → zJ → Prop} {m mi : zI} {s come k g : Nat} {far fg ord : Nat → Nat} (hs : s < 65536) (hE : mE m mi) (hM1 : hM come far fg ord mi) (hI : hInv m s come k g far fg ord) (hk : k < come) (hg : 1 ≤ g ∧ g < 32) (hm : hMay m (ord k) g)
    (h : ∀ (come' : Nat) (far' fg' ord' : Nat → Nat) (mi' : zI), come ≤ come' → (∀ i, i < come → ord' i = ord i) → mE m mi' → hM come' far' fg' ord' mi' → hInv m s come' k (g + 1) far' fg' ord' → K mi' ml) :
    TV (d + 1) 224 [.ref 0, .int (Int32.ofNat (hTo (ord k) g)), .int (Int32.ofNat (ord k)), .int (Int32.ofNat g)] zMS zMR mi ml K := by
  have hI' := hI
  obtain ⟨a, b, c, e, f, q, i⟩ := hI'
  obtain ⟨b1, b2⟩ := b k hk
  have ht := hTo_lt (g := g) b1 hg.2
  have hcl : come ≤ 65536 := by
    have : ∀ n, vc far n ≤ n := by
      intro n
      induction n with
      | zero => exact Nat.le_refl _
      | succ n ih => rw [vc]; split <;> omega
    rw [← a.2.2.2]; exact this _
  have ik := i (ord k)
  have it := i (hTo (ord k) g)
  obtain ⟨m1, m2, m3⟩ := hM1
  obtain ⟨k1, k2⟩ := m2 _ b1
  have k2 := k2 b2
  obtain ⟨t1, t2⟩ := m2 _ ht
  have hzk : zin (Int32.ofNat (ord k)) 65536 = true := n_zin b1 (by omega)
  have hzt : zin (Int32.ofNat (hTo (ord k) g)) 65536 = true := n_zin ht (by omega)
  have fgk := (hQ_lt hs _ _ _ (c _ b1 b2).2).2
  have hfl : hFirst far fg ord k g < 32 := by unfold hFirst; split <;> omega
  -- the three ways on
  have new : far (hTo (ord k) g) = 0 → ∀ v : Int32, v = Int32.ofNat (hFirst far fg ord k g) → zin (Int32.ofNat come) 65536 = true ∧ K (zu (zu (zu (zu mi 28 (hTo (ord k) g) (Int32.ofNat (far (ord k)) - 1 + 1)) 29 (hTo (ord k) g) v) 30 come (Int32.ofNat (hTo (ord k) g))) 0 47 (Int32.ofNat come + 1)) ml := by
    intro h0 v hv
    obtain ⟨n1, n2⟩ := hInv_new hs hk hg hm h0 hI
    refine ⟨n_zin n1 (by omega), h (come + 1) (u1 far (hTo (ord k) g) (far (ord k) + 1)) (u1 fg (hTo (ord k) g) (hFirst far fg ord k g)) (u1 ord come (hTo (ord k) g)) _ (Nat.le_succ _) (fun j hj => u1_ne _ _ (by omega)) ((((hE.put (by decide)).put (by decide)).put (by decide)).put0 (by decide)) ⟨?_, fun t htl => ?_, fun j hj => ?_⟩ n2⟩
    · rw [zu_eq, n_suc]
    · have z28 : ∀ w x y : Int32, zu (zu (zu (zu mi 28 (hTo (ord k) g) w) 29 (hTo (ord k) g) v) 30 come x) 0 47 y 28 t = zu mi 28 (hTo (ord k) g) w 28 t := fun w x y => by
        rw [zu_nc (by decide), zu_nc (by decide), zu_nc (by decide)]
      have z29 : ∀ w x y : Int32, zu (zu (zu (zu mi 28 (hTo (ord k) g) w) 29 (hTo (ord k) g) v) 30 come x) 0 47 y 29 t = zu mi 29 (hTo (ord k) g) v 29 t := fun w x y => by
        rw [zu_nc (by decide), zu_nc (by decide)]
        by_cases et : t = hTo (ord k) g
        · subst et; rw [zu_eq, zu_eq]
        · rw [zu_nk et, zu_nk et, zu_nc (by decide)]
      rw [z28, z29]
      by_cases et : t = hTo (ord k) g
      · subst et
        rw [zu_eq, zu_eq, u1_eq, u1_eq, Int32.sub_add_cancel, n_pred]
        exact ⟨rfl, fun _ => hv⟩
      · rw [zu_nk et, zu_nk et, u1_ne _ _ et, u1_ne _ _ et]; exact m2 t htl
    · rw [zu_nc (by decide)]
      by_cases ej : j = come
      · subst ej; rw [zu_eq, u1_eq]
      · rw [zu_nk ej, zu_nc (by decide), zu_nc (by decide), u1_ne _ _ ej]; exact m3 j (by omega)
  have old : 1 ≤ far (hTo (ord k) g) → (far (hTo (ord k) g) = far (ord k) + 1 → fg (hTo (ord k) g) ≤ hFirst far fg ord k g) → K mi ml := fun h1 h2 =>
    h come far fg ord mi (Nat.le_refl _) (fun _ _ => rfl) hE ⟨m1, m2, m3⟩ (hInv_old hk h1 h2 hI hg.2)
  have less : far (hTo (ord k) g) = far (ord k) + 1 → hFirst far fg ord k g < fg (hTo (ord k) g) → ∀ v : Int32, v = Int32.ofNat (hFirst far fg ord k g) → K (zu mi 29 (hTo (ord k) g) v) ml := by
    intro h1 h2 v hv
    refine h come far (u1 fg (hTo (ord k) g) (hFirst far fg ord k g)) ord _ (Nat.le_refl _) (fun _ _ => rfl) (hE.put (by decide)) ⟨by rw [zu_nc (by decide)]; exact m1, fun t htl => ?_, fun j hj => by rw [zu_nc (by decide)]; exact m3 j hj⟩ (hInv_less hk hg hm h1 h2 hI)
    rw [zu_nc (by decide)]
    by_cases et : t = hTo (ord k) g
    · subst et
      rw [zu_eq, u1_eq]; exact ⟨t1, fun _ => hv⟩
    · rw [zu_nk et, u1_ne _ _ et]; exact m2 t htl
  -- what is told of t by the numbers
  have tell : ∀ v : Int32, v = Int32.ofNat (hFirst far fg ord k g) →
      (((mi 28 (hTo (ord k) g)) ≠ (-1) → (zin (Int32.ofNat (hTo (ord k) g)) 65536 = true ∧ (zin (Int32.ofNat (ord k)) 65536 = true ∧ (((mi 28 (hTo (ord k) g)) ≠ (Int32.ofNat (far (ord k)) - 1) + 1 → K mi ml) ∧ (¬ (mi 28 (hTo (ord k) g)) ≠ (Int32.ofNat (far (ord k)) - 1) + 1 → (zin (Int32.ofNat (hTo (ord k) g)) 65536 = true ∧ (((mi 29 (hTo (ord k) g)) ≤ v → K mi ml) ∧ (¬ (mi 29 (hTo (ord k) g)) ≤ v → (zin (Int32.ofNat (hTo (ord k) g)) 65536 = true ∧ K (zu mi 29 (hTo (ord k) g) v) ml))))))))) ∧
       (¬ (mi 28 (hTo (ord k) g)) ≠ (-1) → (zin (Int32.ofNat (ord k)) 65536 = true ∧ (zin (Int32.ofNat (hTo (ord k) g)) 65536 = true ∧ (zin (Int32.ofNat (hTo (ord k) g)) 65536 = true ∧ (zin (Int32.ofNat come) 65536 = true ∧ K (zu (zu (zu (zu mi 28 (hTo (ord k) g) (Int32.ofNat (far (ord k)) - 1 + 1)) 29 (hTo (ord k) g) v) 30 come (Int32.ofNat (hTo (ord k) g))) 0 47 (Int32.ofNat come + 1)) ml)))))) := by
    intro v hv
    rw [t1]
    have H1 : Int32.ofNat (far (hTo (ord k) g)) - 1 ≠ -1 → 1 ≤ far (hTo (ord k) g) := fun x => by
      have : ¬ far (hTo (ord k) g) = 0 := fun r => x ((n_m1n (by omega)).mpr r)
      omega
    have H2 : ¬ Int32.ofNat (far (hTo (ord k) g)) - 1 ≠ Int32.ofNat (far (ord k)) - 1 + 1 → far (hTo (ord k) g) = far (ord k) + 1 := fun y => by
      have y := Decidable.not_not.mp y
      rw [Int32.sub_add_cancel, ← n_pred (k := far (ord k))] at y
      exact (n_m1e (by omega) (by omega)).mp y
    refine ⟨fun x => ⟨hzt, hzk, fun y => ?_, fun y => ⟨hzt, fun z => ?_, fun z => ⟨hzt, ?_⟩⟩⟩, fun x => ⟨hzk, hzt, hzt, new ((n_m1n (by omega)).mp (Decidable.not_not.mp x)) v hv⟩⟩
    · refine old (H1 x) (fun r => absurd ?_ y)
      rw [r, Int32.sub_add_cancel, n_pred]
    · have fgt := (hQ_lt hs _ _ _ (c _ ht (H1 x)).2).2
      rw [t2 (H1 x), hv] at z
      exact old (H1 x) (fun _ => (n_le (by omega) (by omega)).mp z)
    · have fgt := (hQ_lt hs _ _ _ (c _ ht (H1 x)).2).2
      refine less (H2 y) (Nat.lt_of_not_le (fun r => z ?_)) v hv
      rw [t2 (H1 x), hv]
      exact (n_le (by omega) (by omega)).mpr r
  refine TV_of (B_224 _ _ _ ?_)
  rw [n_cl (show ord k < 2147483648 by omega), n_cl (show hTo (ord k) g < 2147483648 by omega), m1, n_cl (show come < 2147483648 by omega), k1, k2]
  refine ⟨hzk, fun x => ⟨hzk, hzt, tell _ ?_⟩, fun x => ⟨hzt, tell _ ?_⟩⟩
  · unfold hFirst; rw [if_neg (fun r => x ((n_m1z (by omega)).mpr r))]
  · unfold hFirst; rw [if_pos ((n_m1z (by omega)).mp (Decidable.not_not.mp x))]
end HOME
