/-! What a plan takes. -/
theorem gl_congr1 {S T : Nat → Prop} [DecidablePred S] [DecidablePred T] : ∀ n, (∀ g, g < n → 1 ≤ g → (S g ↔ T g)) → gl S n = gl T n
  | 0, _ => rfl
  | n + 1, h => by
    have ih := gl_congr1 n (fun g hg => h g (by omega))
    rw [gl_suc, gl_suc, ih]
    by_cases q : 1 ≤ n ∧ S n
    · rw [if_pos q, if_pos ⟨q.1, (h n (by omega) q.1).mp q.2⟩]
    · rw [if_neg q, if_neg (fun z => q ⟨z.1, (h n (by omega) z.1).mpr z.2⟩)]
theorem pk1_eq {r r' : Nat → Int32} {b g : Nat} (h : b = 0 ∨ (r b < r g ↔ r' b < r' g)) : pk1 r b g = pk1 r' b g := by
  unfold pk1
  by_cases q0 : b = 0
  · rw [if_pos (Or.inl q0), if_pos (Or.inl q0)]
  · have hb := h.resolve_left q0
    by_cases q : r b < r g
    · rw [if_pos (Or.inr q), if_pos (Or.inr (hb.mp q))]
    · rw [if_neg (fun z => z.elim q0 q), if_neg (fun z => z.elim q0 (fun z => q (hb.mpr z)))]
theorem pk1_or (r : Nat → Int32) (b g : Nat) : pk1 r b g = g ∨ pk1 r b g = b := by
  unfold pk1
  split
  · exact .inl rfl
  · exact .inr rfl
theorem pk_foldl {r r' : Nat → Int32} {L : List Nat} (h : ∀ a b, a ∈ L → b ∈ L → (r a < r b ↔ r' a < r' b)) (l : List Nat) : ∀ (b : Nat), (b = 0 ∨ b ∈ L) → (∀ x, x ∈ l → x ∈ L) → l.foldl (pk1 r) b = l.foldl (pk1 r') b := by
  induction l with
  | nil =>
    intro b _ _
    have e1 : ∀ f : Nat → Nat → Nat, List.foldl f b [] = b := fun _ => rfl
    rw [e1, e1]
  | cons g l ih =>
    intro b hb hl
    have hg := hl g (List.mem_cons_self ..)
    have e : pk1 r b g = pk1 r' b g := pk1_eq (hb.imp id (fun hb => h b g hb hg))
    have nx : pk1 r' b g = 0 ∨ pk1 r' b g ∈ L := by
      rcases pk1_or r' b g with q | q
      · rw [q]; exact .inr hg
      · rw [q]; exact hb
    rw [List.foldl_cons, List.foldl_cons, e]
    exact ih _ nx (fun x hx => hl x (List.mem_cons_of_mem _ hx))
theorem pk_congr {r r' : Nat → Int32} {l : List Nat} (h : ∀ a b, a ∈ l → b ∈ l → (r a < r b ↔ r' a < r' b)) : pk r l = pk r' l := pk_foldl h l 0 (.inl rfl) (fun _ h => h)
theorem pk_zero : ∀ (l : List Nat), (∀ x, x ∈ l → 1 ≤ x) → pk (fun _ => 0) l = l.getD 0 0
  | [], _ => rfl
  | g :: l, h => by
    have h1 := h g (List.mem_cons_self ..)
    have stay : ∀ (l : List Nat), l.foldl (pk1 (fun _ => 0)) g = g := by
      intro l
      induction l with
      | nil => rfl
      | cons x l ih =>
        rw [List.foldl_cons]
        have : pk1 (fun _ => 0) g x = g := if_neg (fun z => z.elim (by omega) (fun z => absurd z (show ¬ (0 : Int32) < 0 by decide)))
        rw [this, ih]
    show (g :: l).foldl (pk1 (fun _ => 0)) 0 = g
    rw [List.foldl_cons]
    have : pk1 (fun _ => 0) 0 g = g := if_pos (.inl rfl)
    rw [this, stay]
/-- the class of a kind -/
def zKd (kd : Nat) : Nat := if kd = 0 then 5 else if kd = 1 then 1 else if kd = 2 then 3 else if kd = 3 then 2 else if kd = 4 then 0 else if kd = 5 then 10 else 9
def cPlan (X : zS) (fr nx : Nat) (P : zR0) (t p : Nat) (c m : zI) : Prop :=
  74 ≤ t ∧ zk (zCS ++ X) t = zKd (mKd m p) ∧ (zn (zCS ++ X) t = if mKd m p = 5 then 6 else 4) ∧ c t 0 = m 2 p ∧ c t 1 = m 3 p ∧ c t 2 = Int32.ofNat p ∧
  (mKd m p = 5 → ∃ r, 74 ≤ r ∧ zCR fr nx P t 4 = r + 1 ∧ zk (zCS ++ X) r = 100 ∧ zn (zCS ++ X) r = 3 ∧ ∀ k, k < 3 → c r k = m 4 (3 * p + k))
/-- the ranks of kind 4 stand in the same order -/
theorem rank4 {m : zI} {cs : List pCl} (hp : iP m) (hL : iL m (tkOf cs)) (hw : iW m) (hbo : iB m) (hH : iHold m cs) (hc : iCs cs) {a b : Nat} (ha : a < 2 ^ mPe m) (hb : b < 2 ^ mPe m) : cRank4 m (tkOf cs) a < cRank4 m (tkOf cs) b ↔ mRank m 4 a < mRank m 4 b := by
  have pw := pow_tri _ hp
  have lg : ∀ g, g < 2 ^ mPe m → ∃ n, n ≤ 11 ∧ LG (mLook m (tkOf cs)) (mAftN m g) (mW m ^^^ g) (1 - mBo m) = Int32.ofNat n ∧ LG m (mAftN m g) (mW m ^^^ g) (1 - mBo m) = Int32.ofNat n := by
    intro g hg
    have e := LC_LG hp hH hc 1024 (mAftN m g) (mW m ^^^ g) (1 - mBo m) (hW (mPe m) (mW m ^^^ g) (1 - mBo m)) (Nat.sub_le _ _) (by have := (mAftN_of hp g).2; omega) (Nat.xor_lt_two_pow hw.2 hg) (by omega) ?_ ?_
    · refine ⟨_, LC_le _ _ _ _, e, ?_⟩
      rw [← e]
      refine LG_same (fun x hx => ?_) (fun x hx => ?_) _ _ _
      · rw [(hL x hx).1]; exact (if_pos ⟨rfl, hx⟩).symm
      · have e24 : mLook m (tkOf cs) 24 x = if mCould m (tkOf cs) x then 1 else 0 := by
          show (if _ then _ else if _ then _ else _) = _
          rw [if_neg (fun q => absurd q.1 (by decide)), if_pos ⟨rfl, hx⟩]
        rw [(hL x hx).2, e24]
    · have := Nat.xor_lt_two_pow hw.2 hg
      unfold hW
      split
      · exact Nat.lt_of_lt_of_le (Nat.xor_lt_two_pow (n := mPe m) (by omega) this) pw.2.1
      · omega
    · refine Nat.mod_eq_of_lt ?_
      have := Nat.xor_lt_two_pow hw.2 hg
      unfold hW
      split
      · exact Nat.xor_lt_two_pow (by omega) this
      · exact this
  obtain ⟨x, x1, x2, x3⟩ := lg a ha
  obtain ⟨y, y1, y2, y3⟩ := lg b hb
  have oa := oN_ok a (by omega)
  have ob := oN_ok b (by omega)
  have r4 : ∀ g, mRank m 4 g = 8 * LG m (mAftN m g) (mW m ^^^ g) (1 - mBo m) + sOnes (Int32.ofNat g) 10 := fun g => by
    unfold mRank
    rw [if_neg (by decide), if_neg (by decide)]
  rw [r4, r4, cRank4, cRank4, x2, x3, y2, y3, oa.1, ob.1]
  have f32 : ∀ n : Nat, Int32.ofNat n * 32 = Int32.ofNat (n * 32) := fun n => (Int32.ofNat_mul n 32).symm
  have f8 : ∀ n : Nat, (8 : Int32) * Int32.ofNat n = Int32.ofNat (8 * n) := fun n => (Int32.ofNat_mul 8 n).symm
  rw [f32, f32, f8, f8, n_add, n_add, n_add, n_add, n_lt (by omega) (by omega), n_lt (by omega) (by omega)]
  omega
