/-! Rows of groups, nobody forgetting: places as numbers, ways of some length with their first group, and the search through them. -/
abbrev hMay (m : zI) (s g : Nat) : Prop := mMay m g (Int32.ofNat (s / 64)) (Int32.ofNat (s / 2 % 32)) (Int32.ofNat (s % 2))
def hTo (s g : Nat) : Nat := lSt (s / 64 ||| gpN g) (s / 2 % 32 ^^^ g) (1 - s % 2)
/-- from s a way of n crossings, f the first, leads to t -/
def hQ (m : zI) (s : Nat) : Nat → Nat → Nat → Prop
  | 0, f, t => f = 0 ∧ t = s
  | n + 1, f, t => ∃ u g f', hQ m s n f' u ∧ (1 ≤ g ∧ g < 32) ∧ hMay m u g ∧ t = hTo u g ∧ f = if n = 0 then g else f'
theorem hTo_lt {s g : Nat} (hs : s < 65536) (hg : g < 32) : hTo s g < 65536 :=
  lSt_lt (Nat.or_lt_two_pow (n := 10) (by omega) (gpN_ok g hg).2) (Nat.xor_lt_two_pow (n := 5) (by omega) (by omega)) (by omega)
theorem hQ_lt {m : zI} {s : Nat} (hs : s < 65536) : ∀ n f t, hQ m s n f t → t < 65536 ∧ f < 32
  | 0, f, t, h => by obtain ⟨rfl, rfl⟩ := h; exact ⟨hs, by decide⟩
  | n + 1, f, t, h => by
    obtain ⟨u, g, f', h1, ⟨h2, h2'⟩, h3, rfl, rfl⟩ := h
    obtain ⟨a, b⟩ := hQ_lt hs n f' u h1
    refine ⟨hTo_lt a h2', ?_⟩
    split <;> omega
def u1 (f : Nat → Nat) (k v : Nat) : Nat → Nat := fun x => if x = k then v else f x
theorem u1_eq (f : Nat → Nat) (k v : Nat) : u1 f k v k = v := by simp [u1]
theorem u1_ne (f : Nat → Nat) {k x : Nat} (v : Nat) (h : x ≠ k) : u1 f k v x = f x := by simp [u1, h]
/-- how many are reached -/
def vc (far : Nat → Nat) : Nat → Nat
  | 0 => 0
  | n + 1 => vc far n + if far n = 0 then 0 else 1
theorem vc_put {far : Nat → Nat} {t v : Nat} (h0 : far t = 0) (hv : v ≠ 0) : ∀ n, vc (u1 far t v) n = vc far n + if t < n then 1 else 0
  | 0 => by simp [vc]
  | n + 1 => by
    rw [vc, vc, vc_put h0 hv n]
    by_cases e : n = t
    · subst e; rw [u1_eq, h0]; simp [hv]
    · rw [u1_ne _ _ e]
      by_cases q : t < n
      · have e1 : t < n + 1 := by omega
        rw [if_pos q, if_pos e1]; omega
      · have e1 : ¬ t < n + 1 := by omega
        rw [if_neg q, if_neg e1]; omega
theorem vc_lt {far : Nat → Nat} {t : Nat} (h0 : far t = 0) : ∀ n, t < n → vc far n < n
  | 0, h => absurd h (Nat.not_lt_zero _)
  | n + 1, h => by
    have hle : ∀ n, vc far n ≤ n := by
      intro n
      induction n with
      | zero => exact Nat.le_refl _
      | succ n ih => rw [vc]; split <;> omega
    rw [vc]
    by_cases e : n = t
    · subst e; rw [if_pos h0]; have := hle n; omega
    · have := vc_lt h0 n (by omega)
      split <;> omega
/-- the search has gone through all before k, and from the k-th on by groups before g; far: 1 and how far, 0 not reached -/
def hInv (m : zI) (s come k g : Nat) (far fg ord : Nat → Nat) : Prop :=
  (1 ≤ come ∧ ord 0 = s ∧ far s = 1 ∧ vc far 65536 = come) ∧
  (∀ i, i < come → ord i < 65536 ∧ 1 ≤ far (ord i)) ∧
  (∀ t, t < 65536 → 1 ≤ far t → (∃ i, i < come ∧ ord i = t) ∧ hQ m s (far t - 1) (fg t) t) ∧
  (∀ i j, i ≤ j → j < come → far (ord i) ≤ far (ord j)) ∧
  (∀ i, i < come → k < come → far (ord i) ≤ far (ord k) + 1) ∧
  (∀ i h, (i < k ∨ i = k ∧ h < g) → i < come → 1 ≤ h → h < 32 → hMay m (ord i) h → 1 ≤ far (hTo (ord i) h) ∧ far (hTo (ord i) h) ≤ far (ord i) + 1 ∧ (far (hTo (ord i) h) = far (ord i) + 1 → fg (hTo (ord i) h) ≤ if far (ord i) = 1 then h else fg (ord i))) ∧
  (∀ t, far t ≤ come)
theorem hInv_next {m : zI} {s come k : Nat} {far fg ord : Nat → Nat} (h : hInv m s come k 32 far fg ord) : hInv m s come (k + 1) 1 far fg ord := by
  obtain ⟨a, b, c, e, f, g, i⟩ := h
  refine ⟨a, b, c, e, fun j hj hk => ?_, fun j q hq hj h1 h2 h3 => g j q ?_ hj h1 h2 h3, i⟩
  · have h1 := f j hj (by omega)
    have h2 := e k (k + 1) (by omega) hk
    omega
  · rcases hq with hq | hq
    · by_cases ej : j = k
      · exact .inr ⟨ej, h2⟩
      · exact .inl (by omega)
    · omega
/-- a group that may not go from there needs nothing -/
theorem hInv_skip {m : zI} {s come k g : Nat} {far fg ord : Nat → Nat} (hn : ¬ hMay m (ord k) g) (h : hInv m s come k g far fg ord) : hInv m s come k (g + 1) far fg ord := by
  obtain ⟨a, b, c, e, f, q, i⟩ := h
  refine ⟨a, b, c, e, f, fun j x hx hj h1 h2 h3 => q j x ?_ hj h1 h2 h3, i⟩
  rcases hx with hx | ⟨rfl, hx⟩
  · exact .inl hx
  · by_cases ex : x = g
    · subst ex; exact absurd h3 hn
    · exact .inr ⟨rfl, by omega⟩
def hFirst (far fg ord : Nat → Nat) (k g : Nat) : Nat := if far (ord k) = 1 then g else fg (ord k)
theorem hInv_way {m : zI} {s come k g : Nat} {far fg ord : Nat → Nat} (hk : k < come) (hg : 1 ≤ g ∧ g < 32) (hm : hMay m (ord k) g) (h : hInv m s come k g far fg ord) : hQ m s (far (ord k)) (hFirst far fg ord k g) (hTo (ord k) g) := by
  obtain ⟨a, b, c, e, f, q, i⟩ := h
  obtain ⟨b1, b2⟩ := b k hk
  have h1 := (c _ b1 b2).2
  obtain ⟨x, hx⟩ : ∃ x, far (ord k) = x + 1 := ⟨far (ord k) - 1, by omega⟩
  rw [hx, hQ]
  rw [hx] at h1
  refine ⟨ord k, g, fg (ord k), h1, hg, hm, rfl, ?_⟩
  unfold hFirst
  rw [hx]
  by_cases e : x = 0
  · rw [if_pos e, if_pos (by omega)]
  · rw [if_neg e, if_neg (by omega)]
/-- to what was not reached yet -/
theorem hInv_new {m : zI} {s come k g : Nat} {far fg ord : Nat → Nat} (hs : s < 65536) (hk : k < come) (hg : 1 ≤ g ∧ g < 32) (hm : hMay m (ord k) g) (h0 : far (hTo (ord k) g) = 0) (h : hInv m s come k g far fg ord) :
    come < 65536 ∧ hInv m s (come + 1) k (g + 1) (u1 far (hTo (ord k) g) (far (ord k) + 1)) (u1 fg (hTo (ord k) g) (hFirst far fg ord k g)) (u1 ord come (hTo (ord k) g)) := by
  have hway := hInv_way hk hg hm h
  obtain ⟨⟨a1, a2, a3, a4⟩, b, c, e, f, q, i⟩ := h
  obtain ⟨b1, b2⟩ := b k hk
  have ht := hTo_lt (g := g) b1 hg.2
  have hlt : come < 65536 := by rw [← a4]; exact vc_lt h0 _ ht
  have nv : ∀ j, j < come → ord j ≠ hTo (ord k) g := fun j hj r => by
    have := (b j hj).2
    rw [r, h0] at this; omega
  have os : ∀ j, j < come → u1 ord come (hTo (ord k) g) j = ord j := fun j hj => u1_ne _ _ (by omega)
  have fs : ∀ j, j < come → u1 far (hTo (ord k) g) (far (ord k) + 1) (ord j) = far (ord j) := fun j hj => u1_ne _ _ (nv j hj)
  have gs : ∀ j, j < come → u1 fg (hTo (ord k) g) (hFirst far fg ord k g) (ord j) = fg (ord j) := fun j hj => u1_ne _ _ (nv j hj)
  have hne : s ≠ hTo (ord k) g := fun r => by rw [← r, a3] at h0; omega
  refine ⟨hlt, ⟨by omega, by rw [os 0 (by omega)]; exact a2, by rw [u1_ne _ _ hne]; exact a3, ?_⟩, ?_, ?_, ?_, ?_, ?_, ?_⟩
  · rw [vc_put h0 (by omega), if_pos ht, a4]
  · intro j hj
    by_cases ej : j = come
    · subst ej; rw [u1_eq, u1_eq]; exact ⟨ht, by omega⟩
    · rw [os j (by omega), fs j (by omega)]; exact b j (by omega)
  · intro t ht' h1
    by_cases et : t = hTo (ord k) g
    · subst et
      refine ⟨⟨come, by omega, u1_eq _ _ _⟩, ?_⟩
      rw [u1_eq, u1_eq, Nat.add_sub_cancel]; exact hway
    · rw [u1_ne _ _ et] at h1
      obtain ⟨⟨j, hj, rfl⟩, h2⟩ := c t ht' h1
      refine ⟨⟨j, by omega, os j hj⟩, ?_⟩
      rw [u1_ne _ _ et, u1_ne _ _ et]; exact h2
  · intro x y hxy hy
    by_cases ey : y = come
    · subst ey
      rw [u1_eq, u1_eq]
      by_cases ex : x = y
      · subst ex; rw [u1_eq, u1_eq]; exact Nat.le_refl _
      · rw [os x (by omega), fs x (by omega)]; exact f x (by omega) hk
    · rw [os x (by omega), fs x (by omega), os y (by omega), fs y (by omega)]; exact e x y hxy (by omega)
  · intro x hx _
    rw [os k hk, fs k hk]
    by_cases ex : x = come
    · subst ex; rw [u1_eq, u1_eq]; exact Nat.le_refl _
    · rw [os x (by omega), fs x (by omega)]; exact f x (by omega) hk
  · intro x y hxy hx h1 h2 h3
    have hxk : x ≤ k := by omega
    rw [os x (by omega)] at h3 ⊢
    rw [fs x (by omega), gs x (by omega)]
    by_cases ed : x = k ∧ y = g
    · obtain ⟨rfl, rfl⟩ := ed
      rw [u1_eq, u1_eq]
      exact ⟨by omega, Nat.le_refl _, fun _ => Nat.le_refl _⟩
    · have old := q x y (by omega) (by omega) h1 h2 h3
      have hne' : hTo (ord x) y ≠ hTo (ord k) g := fun r => by rw [r, h0] at old; omega
      rw [u1_ne _ _ hne', u1_ne _ _ hne']
      exact old
  · intro t
    have := i (ord k)
    by_cases et : t = hTo (ord k) g
    · rw [et, u1_eq]; omega
    · rw [u1_ne _ _ et]; have := i t; omega
/-- to what was reached as soon, by a lesser first group -/
theorem hInv_less {m : zI} {s come k g : Nat} {far fg ord : Nat → Nat} (hk : k < come) (hg : 1 ≤ g ∧ g < 32) (hm : hMay m (ord k) g) (h0 : far (hTo (ord k) g) = far (ord k) + 1) (hf : hFirst far fg ord k g < fg (hTo (ord k) g)) (h : hInv m s come k g far fg ord) :
    hInv m s come k (g + 1) far (u1 fg (hTo (ord k) g) (hFirst far fg ord k g)) ord := by
  have hway := hInv_way hk hg hm h
  obtain ⟨a, b, c, e, f, q, i⟩ := h
  refine ⟨a, b, ?_, e, f, ?_, i⟩
  · intro t ht h1
    obtain ⟨c1, c2⟩ := c t ht h1
    refine ⟨c1, ?_⟩
    by_cases et : t = hTo (ord k) g
    · subst et; rw [u1_eq, h0, Nat.add_sub_cancel]; exact hway
    · rw [u1_ne _ _ et]; exact c2
  · intro x y hxy hx h1 h2 h3
    have hxk : x ≤ k := by omega
    have hd := e x k hxk hk
    have hnx : ord x ≠ hTo (ord k) g := fun r => by rw [r, h0] at hd; omega
    rw [u1_ne _ _ hnx]
    by_cases ed : x = k ∧ y = g
    · obtain ⟨rfl, rfl⟩ := ed
      rw [u1_eq, h0]
      exact ⟨by omega, Nat.le_refl _, fun _ => Nat.le_refl _⟩
    · have old := q x y (by omega) hx h1 h2 h3
      refine ⟨old.1, old.2.1, fun r => ?_⟩
      have o3 := old.2.2 r
      by_cases et : hTo (ord x) y = hTo (ord k) g
      · rw [et, u1_eq]; rw [et] at o3; omega
      · rw [u1_ne _ _ et]; exact o3
/-- to what was reached no later by no greater first group -/
theorem hInv_old {m : zI} {s come k g : Nat} {far fg ord : Nat → Nat} (hk : k < come) (h1 : 1 ≤ far (hTo (ord k) g)) (hf : far (hTo (ord k) g) = far (ord k) + 1 → fg (hTo (ord k) g) ≤ hFirst far fg ord k g) (h : hInv m s come k g far fg ord) (hg : g < 32) : hInv m s come k (g + 1) far fg ord := by
  obtain ⟨a, b, c, e, f, q, i⟩ := h
  refine ⟨a, b, c, e, f, ?_, i⟩
  intro x y hxy hx hy1 hy2 h3
  by_cases ed : x = k ∧ y = g
  · obtain ⟨rfl, rfl⟩ := ed
    have ht := hTo_lt (g := y) (b x hx).1 hg
    obtain ⟨j, hj, ej⟩ := (c _ ht h1).1
    have := f j hj hk
    rw [ej] at this
    exact ⟨h1, this, hf⟩
  · exact q x y (by omega) hx hy1 hy2 h3
/-- all is gone through: each way is found, and none shorter than far, nor as short with a lesser first -/
theorem hInv_all {m : zI} {s come : Nat} {far fg ord : Nat → Nat} {k : Nat} (hs : s < 65536) (hk : come ≤ k) (h : hInv m s come k 1 far fg ord) : ∀ n f t, hQ m s n f t → 1 ≤ far t ∧ far t ≤ n + 1 ∧ (far t = n + 1 → fg t ≤ f)
  | 0, f, t, hq => by
    obtain ⟨⟨a1, a2, a3, a4⟩, b, c, e, f', q, i⟩ := h
    obtain ⟨rfl, rfl⟩ := hq
    refine ⟨by omega, by omega, fun _ => ?_⟩
    have := (c t hs (by omega)).2
    rw [a3] at this
    have := this.1
    omega
  | n + 1, f, t, hq => by
    obtain ⟨u, g, f', h1, ⟨h2, h2'⟩, h3, rfl, rfl⟩ := hq
    obtain ⟨r1, r2, r3⟩ := hInv_all hs hk h n f' u h1
    have hu := (hQ_lt hs n f' u h1).1
    obtain ⟨a, b, c, e, x, q, i⟩ := h
    obtain ⟨⟨j, hj, rfl⟩, -⟩ := c u hu r1
    obtain ⟨s1, s2, s3⟩ := q j g (.inl (by omega)) hj h2 h2' h3
    refine ⟨s1, by omega, fun r => ?_⟩
    have := s3 (by omega)
    have h4 := r3 (by omega)
    by_cases e0 : n = 0
    · rw [if_pos e0]; rw [if_pos (by omega)] at this; exact this
    · rw [if_neg e0]; rw [if_neg (by omega)] at this; omega
/-- how far it is home, and by which group first -/
def hIs (m : zI) (s W : Nat) (n f : Int32) : Prop :=
  (n = -5 ∧ f = -5 ∧ ∀ N F t, N ≤ 30 → hQ m s N F t → t / 2 % 32 ≠ W) ∨
  ∃ N F : Nat, N ≤ 30 ∧ n = Int32.ofNat N ∧ f = Int32.ofNat F ∧ (∃ t, hQ m s N F t ∧ t / 2 % 32 = W) ∧ ∀ N' F' t, hQ m s N' F' t → t / 2 % 32 = W → N ≤ N' ∧ (N' = N → F ≤ F')
theorem hIs_one {m : zI} {s W : Nat} {n f n' f' : Int32} (h : hIs m s W n f) (h' : hIs m s W n' f') : n = n' ∧ f = f' := by
  rcases h with ⟨rfl, rfl, h⟩ | ⟨N, F, h1, rfl, rfl, ⟨t, h2, h2'⟩, h3⟩
  · rcases h' with ⟨rfl, rfl, _⟩ | ⟨N', F', k1, rfl, rfl, ⟨t', k2, k2'⟩, k3⟩
    · exact ⟨rfl, rfl⟩
    · exact absurd k2' (h N' F' t' k1 k2)
  · rcases h' with ⟨rfl, rfl, h'⟩ | ⟨N', F', k1, rfl, rfl, ⟨t', k2, k2'⟩, k3⟩
    · exact absurd h2' (h' N F t h1 h2)
    · have a := h3 N' F' t' k2 k2'
      have b := k3 N F t h2 h2'
      have e : N = N' := by omega
      subst e
      have e2 : F = F' := by have := a.2 rfl; have := b.2 rfl; omega
      rw [e2]; exact ⟨rfl, rfl⟩
/-- who can be in a group of two or more by some row -/
def lfIs (m : zI) (s S : Nat) : Prop := S < 32 ∧ ∀ x, x < 5 → (S.testBit x = true ↔ ∃ n f t g, hQ m s n f t ∧ (3 ≤ g ∧ g < 32) ∧ ¬ sOnes (Int32.ofNat g) 10 ≤ 1 ∧ hMay m t g ∧ g.testBit x = true)
theorem lfIs_one {m : zI} {s S S' : Nat} (h : lfIs m s S) (h' : lfIs m s S') : S = S' := by
  apply Nat.eq_of_testBit_eq
  intro i
  by_cases hi : i < 5
  · have := (h.2 i hi).trans (h'.2 i hi).symm
    cases a : S.testBit i <;> cases b : S'.testBit i <;> simp_all
  · rw [Nat.testBit_lt_two_pow (Nat.lt_of_lt_of_le h.1 (show 32 ≤ 2 ^ i from Nat.pow_le_pow_right (n := 2) (i := 5) (by decide) (by omega))), Nat.testBit_lt_two_pow (Nat.lt_of_lt_of_le h'.1 (show 32 ≤ 2 ^ i from Nat.pow_le_pow_right (n := 2) (i := 5) (by decide) (by omega)))]
