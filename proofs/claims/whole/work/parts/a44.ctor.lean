/-! What the two constructors leave: class and reference begin alike. -/
def kC0 : Option zO := zex 3000 40 0 0 (zent [.ref 0] (zM 0).1) [] [(11, 15)] (fun _ _ => 0) (fun _ _ => 0) (fun _ _ => 0)
def kM0 : Option zO := zex 3000 40 155 0 (zent [.ref 0] (zM 155).1) [] [(12, 60)] (fun _ _ => 0) (fun _ _ => 0) (fun _ _ => 0)
def kUp (n : Nat) (f : Nat → Bool) : Bool := (List.range n).all f
theorem kUp_at {n : Nat} {f : Nat → Bool} (h : kUp n f = true) {k : Nat} (hk : k < n) : f k = true := List.all_eq_true.mp h k (List.mem_range.mpr hk)
def kEq (a b : Int32) : Bool := decide (a = b)
def kCm (mi : zI) (ml : zJ) : Bool :=
  (kUp 5 (fun k => kEq (mi 1 k) 0) && kEq (mi 1 8) 0 && kEq (mi 1 6) (-1)) && (kUp 10 (fun k => kEq (mi 2 k) (-1)) && kUp 12 (fun k => kEq (mi 3 k) 0)) && (kEq (mi 0 2) 0 && kEq (mi 0 8) 0 && kEq (mi 0 10) 0) && (kEq (mi 27 0) 2 && kEq (mi 27 1) 1 && kEq (mi 27 2) 0 && kEq (mi 27 3) 0 && kEq (mi 27 8) 0) && (kEq (mi 25 1) 0 && kEq (mi 34 0) 0 && kEq (mi 17 1) 0 && kEq (mi 17 2) 0) && (kUp 6 (fun t => kEq (mi 42 t) (-1) && kEq (mi 43 t) 0 && kUp 60 (fun k => decide (ml (36 + t) k = 0))))
def kCr (n : Nat) (R : zR0) : Bool := kUp 74 (fun c => c == 33 || (kUp 16 (fun k => Nat.beq (R c k) (zCR 23 24 (fun _ _ => 0) c k)) && Nat.beq (R c (n + 16)) 0))
def kCok (n : Nat) : Bool := match kC0 with
  | some (none, S, R, mi, ml) => decide (S = zCS) && kCr n R && kCm mi ml
  | _ => false
def kMm (mi : zI) (ml : zJ) : Bool :=
  (kUp 5 (fun k => kEq (mi 0 k) 0) && kEq (mi 0 10) 0 && kEq (mi 0 13) (-1) && kEq (mi 0 6) 0 && kEq (mi 0 12) 0 && kEq (mi 0 21) 0 && kEq (mi 0 22) 0 && kEq (mi 0 50) 0) && (kUp 10 (fun k => kEq (mi 1 k) (-1) && kEq (mi 2 k) 0 && kEq (mi 3 k) 0) && kUp 12 (fun k => kEq (mi 5 k) 0) && kUp 30 (fun k => kEq (mi 4 k) 0)) && (kUp 6 (fun t => kEq (mi 14 t) (-1) && kEq (mi 15 t) 0) && kUp 360 (fun k => decide (ml 16 k = 0))) && (kUp 30 (fun k => kEq (mi 17 k) (Int32.ofNat (wdL.getD k 0))) && kUp 5 (fun k => kEq (mi 18 k) (Int32.ofNat (wdN.getD k 0))) && kUp 6 (fun k => kEq (mi 19 k) (Int32.ofNat (pLet.getD k 0))))
def kMr (n k : Nat) (R : zR0) : Bool := kUp 60 (fun k => Nat.beq (R 0 k) (zMR 0 k)) && Nat.beq (R 0 (n + 60)) 0 && kUp 34 (fun c => c == 0 || Nat.beq (R c n) 0) && Nat.beq (R (n + 34) k) 0
def kMok (n k : Nat) : Bool := match kM0 with
  | some (none, S, R, mi, ml) => decide (S = zMS) && kMr n k R && kMm mi ml
  | _ => false
set_option maxRecDepth 100000 in
theorem kC_ok (n : Nat) : kCok n = true := rfl
set_option maxRecDepth 100000 in
theorem kM_ok (n k : Nat) : kMok n k = true := rfl
theorem zCR_z {c : Nat} (n : Nat) (hc : c < 74) (h : c ≠ 33) : zCR 23 24 (fun _ _ => 0) c (n + 16) = 0 := by
  have : kUp 74 (fun c => c == 33 || Nat.beq (zCR 23 24 (fun _ _ => 0) c (n + 16)) 0) = true := rfl
  have := kUp_at this hc
  simp only [Bool.or_eq_true, beq_iff_eq, h, false_or] at this
  exact Nat.eq_of_beq_eq_true this
theorem kC_at : ∃ R mi ml, kC0 = some (none, zCS, R, mi, ml) ∧ R = zCR 23 24 R ∧ kCm mi ml = true := by
  have e : ∃ S R mi ml, kC0 = some (none, S, R, mi, ml) ∧ ∀ n, (decide (S = zCS) && kCr n R && kCm mi ml) = true := by
    have h := kC_ok
    unfold kCok at h
    generalize kC0 = q at h
    match q, h with
    | some (none, S, R, mi, ml), h => exact ⟨S, R, mi, ml, rfl, h⟩
    | some (some v, S, R, mi, ml), h => exact absurd (show false = true from h 0) (by decide)
    | none, h => exact absurd (show false = true from h 0) (by decide)
  obtain ⟨S, R, mi, ml, e, h⟩ := e
  have h0 := h 0
  simp only [Bool.and_eq_true, decide_eq_true_eq] at h0
  obtain ⟨⟨rfl, -⟩, hm⟩ := h0
  refine ⟨R, mi, ml, e, zCR_ext (P := fun _ _ => 0) (fun c k hc h33 => ?_), hm⟩
  have hr := h (k - 16)
  simp only [Bool.and_eq_true] at hr
  have := kUp_at hr.1.2 hc
  simp only [Bool.or_eq_true, beq_iff_eq, h33, false_or, Bool.and_eq_true] at this
  by_cases hk : k < 16
  · exact Nat.eq_of_beq_eq_true (kUp_at this.1 hk)
  · have e1 := Nat.eq_of_beq_eq_true this.2
    have e2 := zCR_z (k - 16) hc h33
    rw [show k - 16 + 16 = k by omega] at e1 e2
    rw [e1, e2]
theorem zMR_z0 (n : Nat) : zMR 0 (n + 60) = 0 := rfl
theorem zMR_z1 (n : Nat) {c : Nat} (hc : c < 34) (h : c ≠ 0) : zMR c n = 0 := by
  have : kUp 34 (fun c => c == 0 || Nat.beq (zMR c n) 0) = true := rfl
  have := kUp_at this hc
  simp only [Bool.or_eq_true, beq_iff_eq, h, false_or] at this
  exact Nat.eq_of_beq_eq_true this
theorem zMR_z2 (n k : Nat) : zMR (n + 34) k = 0 := rfl
theorem kM_at : ∃ mi ml, kM0 = some (none, zMS, zMR, mi, ml) ∧ kMm mi ml = true := by
  have e : ∃ S R mi ml, kM0 = some (none, S, R, mi, ml) ∧ ∀ n k, (decide (S = zMS) && kMr n k R && kMm mi ml) = true := by
    have h := kM_ok
    unfold kMok at h
    generalize kM0 = q at h
    match q, h with
    | some (none, S, R, mi, ml), h => exact ⟨S, R, mi, ml, rfl, h⟩
    | some (some v, S, R, mi, ml), h => exact absurd (show false = true from h 0 0) (by decide)
    | none, h => exact absurd (show false = true from h 0 0) (by decide)
  obtain ⟨S, R, mi, ml, e, h⟩ := e
  have h0 := h 0 0
  simp only [Bool.and_eq_true, decide_eq_true_eq] at h0
  obtain ⟨⟨rfl, -⟩, hm⟩ := h0
  have hR : R = zMR := by
    funext c k
    by_cases hc : c < 34
    · by_cases h0 : c = 0
      · subst h0
        by_cases hk : k < 60
        · have hr := h 0 0
          simp only [Bool.and_eq_true, kMr] at hr
          exact Nat.eq_of_beq_eq_true (kUp_at hr.1.2.1.1.1 hk)
        · have hr := h (k - 60) 0
          simp only [Bool.and_eq_true, kMr] at hr
          have e1 := Nat.eq_of_beq_eq_true hr.1.2.1.1.2
          have e2 := zMR_z0 (k - 60)
          rw [show k - 60 + 60 = k by omega] at e1 e2
          rw [e1, e2]
      · have hr := h k 0
        simp only [Bool.and_eq_true, kMr] at hr
        have := kUp_at hr.1.2.1.2 hc
        simp only [Bool.or_eq_true, beq_iff_eq, h0, false_or] at this
        rw [Nat.eq_of_beq_eq_true this, zMR_z1 k hc h0]
    · have hr := h (c - 34) k
      simp only [Bool.and_eq_true, kMr] at hr
      have e1 := Nat.eq_of_beq_eq_true hr.1.2.2
      have e2 := zMR_z2 (c - 34) k
      rw [show c - 34 + 34 = c by omega] at e1 e2
      rw [e1, e2]
  subst hR
  exact ⟨mi, ml, e, hm⟩
theorem kEq_at {a b : Int32} (h : kEq a b = true) : a = b := of_decide_eq_true h
/-- class and reference, new -/
theorem rl_init : ∃ P c lc m lm, kC0 = some (none, zCS, zCR 23 24 P, c, lc) ∧ kM0 = some (none, zMS, zMR, m, lm) ∧ Rl [] 23 24 P c lc m lm := by
  obtain ⟨R, c, lc, e1, e2, h⟩ := kC_at
  obtain ⟨m, lm, e3, h'⟩ := kM_at
  refine ⟨R, c, lc, m, lm, by rw [← e2]; exact e1, e3, ?_⟩
  clear e1 e2 e3
  simp only [kCm, Bool.and_eq_true] at h
  simp only [kMm, Bool.and_eq_true] at h'
  obtain ⟨⟨⟨⟨⟨⟨a1, a2⟩, a3⟩, ⟨a4, a5⟩⟩, ⟨⟨a6, a7⟩, a8⟩⟩, ⟨⟨⟨⟨b1, b2⟩, b3⟩, b4⟩, b5⟩⟩, ⟨⟨⟨d1, d2⟩, d3⟩, d4⟩⟩ := h.1
  have tp := h.2
  obtain ⟨⟨⟨⟨⟨⟨⟨⟨⟨⟨e1, e2⟩, e3⟩, e4⟩, e5⟩, e6⟩, e7⟩, e8⟩, ⟨⟨f1, f2⟩, f3⟩⟩, ⟨g1, g2⟩⟩, ⟨⟨w1, w2⟩, w3⟩⟩ := h'
  have A1 : ∀ k, k < 5 → c 1 k = 0 := fun k hk => kEq_at (kUp_at a1 hk)
  have M0 : ∀ k, k < 5 → m 0 k = 0 := fun k hk => kEq_at (kUp_at e1 hk)
  have T : ∀ t, t < 6 → c 42 t = -1 ∧ c 43 t = 0 ∧ ∀ k, k < 60 → lc (36 + t) k = 0 := fun t ht => by
    have := kUp_at tp ht
    simp only [Bool.and_eq_true] at this
    exact ⟨kEq_at this.1.1, kEq_at this.1.2, fun k hk => of_decide_eq_true (kUp_at this.2 hk)⟩
  have G : ∀ t, t < 6 → m 14 t = -1 ∧ m 15 t = 0 := fun t ht => by
    have := kUp_at g1 ht
    simp only [Bool.and_eq_true] at this
    exact ⟨kEq_at this.1, kEq_at this.2⟩
  have F : ∀ k, k < 10 → m 1 k = -1 ∧ m 2 k = 0 ∧ m 3 k = 0 := fun k hk => by
    have := kUp_at f1 hk
    simp only [Bool.and_eq_true] at this
    exact ⟨kEq_at this.1.1, kEq_at this.1.2, kEq_at this.2⟩
  have z0 : m 0 0 = 0 := M0 0 (by decide)
  have z1 : m 0 1 = 0 := M0 1 (by decide)
  have z2 : m 0 2 = 0 := M0 2 (by decide)
  have z3 : m 0 3 = 0 := M0 3 (by decide)
  have z4 : m 0 4 = 0 := M0 4 (by decide)
  have z10 : m 0 10 = 0 := kEq_at e2
  have z13 : m 0 13 = -1 := kEq_at e3
  have z6 : m 0 6 = 0 := kEq_at e4
  have ep : mPe m = 0 := by unfold mPe; rw [z0]; rfl
  have en : mPl m = 0 := by unfold mPl; rw [z6]; rfl
  have eb : mBkN m = 0 := by unfold mBkN; rw [z10]; rfl
  refine ⟨Or.inl ⟨rfl, rfl⟩, ⟨0, 0, kEq_at d3, kEq_at d4, by decide, by decide, fun h => absurd h (by decide)⟩, ⟨⟨fun k hk => kEq_at (kUp_at w1 hk), fun k hk => kEq_at (kUp_at w2 hk), fun k hk => kEq_at (kUp_at w3 hk)⟩, [], ⟨by decide, kEq_at e6, fun i hi => absurd hi (Nat.not_lt_zero _)⟩, ⟨by decide, kEq_at d1, fun i hi => absurd hi (Nat.not_lt_zero _)⟩⟩, ⟨[], by decide, ⟨kEq_at d2, fun j hj => absurd hj (Nat.not_lt_zero _)⟩, ⟨kEq_at e7, fun j hj => absurd hj (Nat.not_lt_zero _)⟩⟩, ⟨fun t ht => ⟨?_, ?_, fun k hk => ?_⟩, fun t ht => ?_⟩, 0, fun _ => 0, ⟨⟨⟨?_, ?_, ?_, ?_, ?_, fun k hk => ?_⟩, ?_, ?_, fun k hk => ?_⟩, ⟨⟨0, by decide, z0⟩, Or.inl z3, ?_, ?_, ?_, ⟨⟨?_, ?_⟩, fun k hk => ?_⟩, fun k _ hk => (F k hk).1⟩, Or.inl z13⟩, ⟨kEq_at a7, kEq_at e5, by decide, fun p hp => absurd hp (Nat.not_lt_zero _), ⟨⟨kEq_at b1, kEq_at b2, kEq_at b3, ?_⟩, ⟨kEq_at b5, by decide⟩, trivial, by decide⟩⟩, ⟨⟨⟨?_, ?_⟩, fun p hp => ?_, fun k hk => ?_⟩, ?_, fun p hp => ?_, fun p q _ hq => ?_⟩, Or.inl ⟨kEq_at a6, kEq_at e8⟩⟩
  · rw [(T t ht).1, (G t ht).1]
  · rw [(T t ht).2.1, (G t ht).2]
  · rw [(T t ht).2.2 k hk]
    exact (of_decide_eq_true (kUp_at g2 (k := 60 * t + k) (by omega))).symm
  · obtain ⟨x, y⟩ := G t ht
    have es : mSz m t = 0 := by unfold mSz; rw [y]; rfl
    rw [es]
    exact ⟨Or.inl ⟨x, rfl⟩, y, by decide⟩
  · rw [A1 0 (by decide), z0]
  · rw [A1 1 (by decide), z1]
  · rw [A1 2 (by decide), z2]
  · rw [A1 3 (by decide), z3]
  · rw [A1 4 (by decide), z4]
  · rw [(F k hk).1]; exact kEq_at (kUp_at a4 hk)
  · rw [z13]; exact kEq_at a3
  · rw [z10]; exact kEq_at a2
  · rw [show m 5 k = 0 from kEq_at (kUp_at f2 hk)]; exact kEq_at (kUp_at a5 hk)
  · have : mW m = 0 := by unfold mW; rw [z1]; rfl
    exact ⟨by rw [this]; exact z1, by rw [this, ep]; decide⟩
  · have : mCr m = 0 := by unfold mCr; rw [z4]; rfl
    exact ⟨by rw [this]; exact z4, by rw [this]; decide⟩
  · have : mWn m = 0 := by unfold mWn; rw [z2, ep]; rfl
    exact ⟨by rw [this]; exact z2, by rw [this, ep]; decide⟩
  · rw [eb]; exact z10
  · rw [eb]; decide
  · have y : m 5 k = 0 := kEq_at (kUp_at f2 hk)
    have : mBk m k = 0 := by unfold mBk; rw [y]; rfl
    rw [this, eb]
    exact ⟨⟨y, by decide⟩, fun h => absurd h (Nat.not_lt_zero _)⟩
  · rw [show c 27 3 = 0 from kEq_at b4]; rfl
  · rw [en]; exact z6
  · rw [en]; decide
  · obtain ⟨-, x, y⟩ := F p hp
    have e1 : mKd m p = 0 := by unfold mKd; rw [x]; rfl
    have e2 : mV m p = 0 := by unfold mV; rw [y]; rfl
    rw [e1, e2]
    exact ⟨⟨x, by decide⟩, y, by decide⟩
  · have x : m 4 k = 0 := kEq_at (kUp_at f3 hk)
    have : mTl m k = 0 := by unfold mTl; rw [x]; rfl
    rw [this]
    exact ⟨x, by decide⟩
  · rw [z6]; exact kEq_at a8
  · rw [en] at hp; exact absurd hp (Nat.not_lt_zero _)
  · rw [en] at hq; exact absurd hq (Nat.not_lt_zero _)
