/-! Bits as numbers; the model: circle, strangers. -/
def bN (f : Nat → Prop) [DecidablePred f] : Nat → Nat
  | 0 => 0
  | k + 1 => if f k then bN f k ||| 2 ^ k else bN f k
theorem bN_lt (f : Nat → Prop) [DecidablePred f] : ∀ n, bN f n < 2 ^ n
  | 0 => by rw [bN]; decide
  | n + 1 => by
    have ih := bN_lt f n
    have hp : 2 ^ (n + 1) = 2 ^ n + 2 ^ n := by rw [Nat.pow_succ]; omega
    rw [bN]
    split
    · exact Nat.or_lt_two_pow (by omega) (by omega)
    · omega
theorem bN_bit (f : Nat → Prop) [DecidablePred f] (k : Nat) : ∀ n, (bN f n).testBit k = decide (k < n ∧ f k)
  | 0 => by rw [bN, Nat.zero_testBit]; exact (decide_eq_false (by omega)).symm
  | n + 1 => by
    have ih := bN_bit f k n
    rw [bN]
    split
    · rename_i h
      rw [Nat.testBit_or, ih, Nat.testBit_two_pow]
      by_cases e : n = k
      · subst e; simp [h]
      · have : (k < n + 1 ∧ f k) ↔ (k < n ∧ f k) := ⟨fun ⟨a, b⟩ => ⟨by omega, b⟩, fun ⟨a, b⟩ => ⟨by omega, b⟩⟩
        simp [e, this]
    · rename_i h
      rw [ih]
      have : (k < n ∧ f k) ↔ (k < n + 1 ∧ f k) := ⟨fun ⟨a, b⟩ => ⟨by omega, b⟩, fun ⟨a, b⟩ => ⟨by
        have : ¬ k = n := fun e => h (e ▸ b)
        omega, b⟩⟩
      simp [this]
theorem n_pow32 : ∀ p : Nat, p < 32 → (1 : Int32) <<< (Int32.ofNat p &&& 31) = Int32.ofNat (2 ^ p) := by decide +kernel
theorem sBits_bN (f : Nat → Prop) [DecidablePred f] : ∀ n, n ≤ 32 → sBits f n = Int32.ofNat (bN f n)
  | 0, _ => rfl
  | n + 1, h => by
    rw [sBits, bN, sBits_bN f n (by omega)]
    split
    · unfold sBit; rw [n_pow32 n (by omega), n_or]
    · rfl
theorem n_shr (k : Nat) (hk : k < 32) : ((Int32.ofNat k &&& 31).toBitVec.smod 32).toNat = k := by
  have : ∀ k : Nat, k < 32 → ((Int32.ofNat k &&& 31).toBitVec.smod 32).toNat = k := by decide +kernel
  exact this k hk
/-- a bit of a number -/
theorem n_bit (a k : Nat) (hk : k < 32) : (Int32.ofNat a >>> (Int32.ofNat k &&& 31)) &&& 1 = if a.testBit k then 1 else 0 := by
  apply Int32.toBitVec_inj.mp
  rw [Int32.toBitVec_and, Int32.toBitVec_shiftRight]
  have e1 : (Int32.toBitVec (if a.testBit k = true then 1 else 0)) = if a.testBit k then 1#32 else 0#32 := by split <;> rfl
  rw [e1]
  apply BitVec.eq_of_getLsbD_eq
  intro i hi
  rw [BitVec.getLsbD_and]
  have e2 : ((1 : Int32).toBitVec).getLsbD i = decide (i = 0) := by
    show (1#32).getLsbD i = _
    rw [BitVec.getLsbD_one]; simp
  rw [e2, BitVec.sshiftRight', BitVec.getLsbD_sshiftRight, n_shr k hk]
  by_cases h0 : i = 0
  · subst h0
    have e3 : (Int32.ofNat a).toBitVec.getLsbD k = a.testBit k := by
      show (BitVec.ofNat 32 a).getLsbD k = _
      rw [BitVec.getLsbD_ofNat]; simp [hk]
    have e4 : ¬ (32 ≤ 0) := by decide
    simp only [Nat.add_zero, hk, if_true, e3, decide_true, Bool.and_true]
    cases a.testBit k <;> simp [hk]
  · have : ∀ b : Bool, (if b then 1#32 else 0#32).getLsbD i = false := by
      intro b
      cases b
      · simp
      · simp [BitVec.getLsbD_one, h0]
    rw [this]
    simp [h0]
theorem n_bit1 (a k : Nat) (hk : k < 32) : (Int32.ofNat a >>> (Int32.ofNat k &&& 31)) &&& 1 = 1 ↔ a.testBit k = true := by
  rw [n_bit a k hk]
  cases a.testBit k <;> simp
theorem n_bit0 (a k : Nat) (hk : k < 32) : (Int32.ofNat a >>> (Int32.ofNat k &&& 31)) &&& 1 = 0 ↔ a.testBit k = false := by
  rw [n_bit a k hk]
  cases a.testBit k <;> simp
theorem sBits_bit (f : Nat → Prop) [DecidablePred f] {n k : Nat} (hn : n ≤ 32) (hk : k < n) : (sBits f n >>> (Int32.ofNat k &&& 31)) &&& 1 = 1 ↔ f k := by
  rw [sBits_bN f n hn, n_bit1 _ k (by omega), bN_bit]
  simp [hk]
/-- a pair of the group that is closed; a circle -/
abbrev cBad (m : zI) (tk : Nat → List Nat) (g k : Nat) : Prop := gPair g k ∧ (mKnows m k ∨ mBars m tk k)
abbrev cOK (m : zI) (tk : Nat → List Nat) (g : Nat) : Prop := ∀ k, k < sTri (mPe m) → ¬ cBad m tk g k
def cBest (m : zI) (tk : Nat → List Nat) : Nat → Nat
  | 0 => 0
  | g + 1 => if 1 ≤ g ∧ oN (cBest m tk g) < oN g ∧ cOK m tk g then g else cBest m tk g
def cMost (m : zI) (tk : Nat → List Nat) : Nat → Nat
  | 0 => 0
  | g + 1 => if 1 ≤ g ∧ Int32.ofNat (oN g) ≤ mLaw m 0 ∧ cMost m tk g < oN g ∧ sThere (Int32.ofNat g) (m 0 1) (m 0 3) ∧ cOK m tk g then oN g else cMost m tk g
def aCircle (m : zI) (tk : Nat → List Nat) : Int32 := Int32.ofNat (cBest m tk (2 ^ mPe m))
def aStrangers (m : zI) (tk : Nat → List Nat) : Int32 := if mLaw m 0 < mLeast m then -5 else if 4 < mLaw m 0 - Int32.ofNat (cMost m tk (2 ^ mPe m)) then -5 else mLaw m 0 - Int32.ofNat (cMost m tk (2 ^ mPe m))
theorem cBest_lt (m : zI) (tk : Nat → List Nat) : ∀ g, cBest m tk g = 0 ∨ cBest m tk g < g
  | 0 => .inl rfl
  | g + 1 => by
    rw [cBest]
    split
    · right; omega
    · rcases cBest_lt m tk g with h | h
      · exact .inl h
      · right; omega
theorem cMost_le (m : zI) (tk : Nat → List Nat) : ∀ g, g ≤ 32 → cMost m tk g ≤ 5
  | 0, _ => Nat.zero_le _
  | g + 1, h => by
    rw [cMost]
    split
    · exact (oN_ok g (by omega)).2
    · exact cMost_le m tk g (by omega)
section CIRCLE
variable {d : Nat} {ml : zJ}
theorem mKnows_as {m mi : zI} (h : mAs [21, 22] m mi) (k : Nat) : mKnows mi k ↔ mKnows m k := by
  unfold mKnows; rw [h 1 k (by decide), h 0 4 (by decide), mLaw_u h.e.u]
theorem t_227_9 {Q : zQ} {tk : Nat → List Nat} {m0 : zI} {g b : Nat} (hb : b < 5) (hbp : b < mPe m0) (h0 : ∀ mi, mAs [21, 22] m0 mi → ¬ cOK m0 tk g → Q (some (.int 0)) mi ml)
    (h1 : ∀ mi, mAs [21, 22] m0 mi → iH mi → iT mi tk → (∀ k, k < sTri (b + 1) → ¬ cBad m0 tk g k) → Wf (d + 3) 227 3 [.ref 0, .int (Int32.ofNat g), .int (mKnown m0), .int (Int32.ofNat (b + 1)), .retAddr 0] [] zMS zMR mi ml Q)
    (hp : iP m0) : ∀ (j a : Nat) (mi : zI), a + j = b → mAs [21, 22] m0 mi → iH mi → iT mi tk → (∀ k, k < sTri b + a → ¬ cBad m0 tk g k) → Wf (d + 3) 227 9 [.ref 0, .int (Int32.ofNat g), .int (mKnown m0), .int (Int32.ofNat b), .int (Int32.ofNat a)] [] zMS zMR mi ml Q
  | 0, a, mi, e, hA, hi, hT, hg => by
    obtain rfl : a = b := by omega
    refine B_227_9 _ _ _ _ ⟨fun _ => ?_, fun x => absurd (Int32.le_refl _) x⟩
    rw [n_suc]
    exact h1 mi hA hi hT (by rw [← sTri_suc a hb]; exact hg)
  | j + 1, a, mi, e, hA, hi, hT, hg => by
    obtain ⟨p1, p2, p3, p4⟩ := pAB b hb a (by omega)
    have q2 := (iP_of hp).2
    have hlt : sTri b + a < sTri (mPe m0) := by
      have : ∀ p : Nat, p < 6 → ∀ b : Nat, b < p → sTri (b + 1) ≤ sTri p := by decide
      have h2 := this _ q2 b hbp
      rw [← sTri_suc b hb] at h2; omega
    have ht10 := sTri_le _ q2
    have egp : gPair g (sTri b + a) ↔ ((Int32.ofNat g >>> (Int32.ofNat a &&& 31)) &&& (Int32.ofNat g >>> (Int32.ofNat b &&& 31))) &&& 1 = 1 := by unfold gPair; rw [p1, p2]
    have eb : mBars m0 tk (sTri b + a) ↔ mBar m0 tk a b = true := by unfold mBars; rw [p1, p2]
    have nxt : ∀ mi', mAs [21, 22] m0 mi' → iH mi' → iT mi' tk → ¬ cBad m0 tk g (sTri b + a) → Wf (d + 3) 227 9 [.ref 0, .int (Int32.ofNat g), .int (mKnown m0), .int (Int32.ofNat b), .int (Int32.ofNat (a + 1))] [] zMS zMR mi' ml Q :=
      fun mi' x y z w => t_227_9 hb hbp h0 h1 hp j (a + 1) mi' (by omega) x y z (fun k hk => by
        by_cases e : k = sTri b + a
        · rw [e]; exact w
        · exact hg k (by omega))
    refine B_227_9 _ _ _ _ ⟨fun x => absurd ((n_le (by omega) (by omega)).mp x) (by omega), fun _ => ⟨fun x => ?_, fun x => t_158 (by omega) hb ?_⟩⟩
    · rw [n_suc]; exact nxt mi hA hi hT (fun q => x (egp.mp q.1))
    · have hgp : gPair g (sTri b + a) := egp.mpr (Decidable.not_not.mp x)
      rw [p3, n_suc]
      refine ⟨fun y => h0 mi hA (fun q => q _ hlt ⟨hgp, .inl ((sBits_bit _ (by omega) hlt).mp y)⟩), fun y => ?_⟩
      refine t_186 (d := d) (tk := tk) (by omega) hb hi hT (fun mi' h' => ⟨fun z => ?_, fun z => ?_⟩)
      · rw [mBar_as hA] at z
        refine nxt mi' (hA.trans h') (iH_as h' hi) (iT_as h' hT) (fun q => ?_)
        rcases q.2 with r | r
        · exact y ((sBits_bit _ (by omega) hlt).mpr r)
        · rw [eb.mp r] at z; exact absurd z (by decide)
      · rw [mBar_as hA] at z
        have hq : mBar m0 tk a b = true := by
          cases hh : mBar m0 tk a b with
          | true => rfl
          | false => exact absurd (by rw [hh]; rfl) z
        exact h0 mi' (hA.trans h') (fun q => q _ hlt ⟨hgp, .inr (eb.mpr hq)⟩)
theorem t_227_3 {Q : zQ} {tk : Nat → List Nat} {m0 : zI} {g : Nat} (hp : iP m0) (hQ : ∀ mi, mAs [21, 22] m0 mi → iH mi → iT mi tk → Q (some (.int (if cOK m0 tk g then 1 else 0))) mi ml) (h0 : ∀ mi, mAs [21, 22] m0 mi → ¬ cOK m0 tk g → Q (some (.int 0)) mi ml) : ∀ (j b : Nat) (mi : zI), b + j = max 1 (mPe m0) → 1 ≤ b → mAs [21, 22] m0 mi → iH mi → iT mi tk → (∀ k, k < sTri b → ¬ cBad m0 tk g k) → Wf (d + 3) 227 3 [.ref 0, .int (Int32.ofNat g), .int (mKnown m0), .int (Int32.ofNat b), .retAddr 0] [] zMS zMR mi ml Q := by
  obtain ⟨q1, q2⟩ := iP_of hp
  intro j
  induction j with
  | zero =>
    intro b mi e h1 hA hi hT hg
    have e0 : mi 0 0 = Int32.ofNat (mPe m0) := by rw [hA 0 0 (by decide)]; exact q1
    refine B_227_3 _ _ _ ?_
    rw [e0]
    refine ⟨fun _ => ?_, fun x => absurd ((n_le (by omega) (by omega)).mpr (by omega)) x⟩
    have ht : sTri b = sTri (mPe m0) := by
      by_cases h : 1 ≤ mPe m0
      · rw [show b = mPe m0 by omega]
      · rw [show b = 1 by omega, show mPe m0 = 0 by omega]; rfl
    have hok : cOK m0 tk g := by intro k hk; rw [← ht] at hk; exact hg k hk
    have := hQ mi hA hi hT
    rw [if_pos hok] at this; exact this
  | succ j ih =>
    intro b mi e h1 hA hi hT hg
    have e0 : mi 0 0 = Int32.ofNat (mPe m0) := by rw [hA 0 0 (by decide)]; exact q1
    refine B_227_3 _ _ _ ?_
    rw [e0]
    refine ⟨fun x => absurd ((n_le (by omega) (by omega)).mp x) (by omega), fun _ => ?_⟩
    exact t_227_9 (b := b) (by omega) (by omega) h0 (fun mi' a b' c e' => ih (b + 1) mi' (by omega) (by omega) a b' c e') hp b 0 mi (by omega) hA hi hT hg
theorem t_227 {K : Int32 → zI → zJ → Prop} {tk : Nat → List Nat} {mi : zI} {g : Nat} (hi : iH mi) (hp : iP mi) (hT : iT mi tk) (h : ∀ mi', mAs [21, 22] mi mi' → K (if cOK mi tk g then 1 else 0) mi' ml) : TI (d + 3) 227 [.ref 0, .int (Int32.ofNat g), .int (mKnown mi)] zMS zMR mi ml K := by
  have q2 := (iP_of hp).2
  refine TI_of (B_227 _ _ (t_227_3 (d := d) (m0 := mi) (tk := tk) hp (fun mi' hA _ _ => h mi' hA) (fun mi' hA hn => ?_) (max 1 (mPe mi) - 1) 1 mi (by omega) (by decide) mAs.rfl hi hT (fun k hk => absurd hk (Nat.not_lt_zero _))))
  have := h mi' hA
  rw [if_neg hn] at this; exact this
theorem cOK_as {m mi : zI} (h : mAs [21, 22] m mi) (tk : Nat → List Nat) (g : Nat) : cOK mi tk g ↔ cOK m tk g := by
  unfold cOK cBad
  rw [mPe_u h.e.u]
  constructor
  · intro q k hk r
    exact q k hk ⟨r.1, r.2.elim (fun x => .inl ((mKnows_as h k).mpr x)) (fun x => .inr (by unfold mBars; rw [mBar_as h]; exact x))⟩
  · intro q k hk r
    exact q k hk ⟨r.1, r.2.elim (fun x => .inl ((mKnows_as h k).mp x)) (fun x => .inr (by unfold mBars at x; rw [mBar_as h] at x; exact x))⟩
theorem mKnown_as {m mi : zI} (h : mAs [21, 22] m mi) : mKnown mi = mKnown m := mKnown_s h.e.s
theorem t_226_7 {Q : zQ} {tk : Nat → List Nat} {m0 : zI} (hp : iP m0) (hQ : ∀ mi, mAs [21, 22] m0 mi → Q (some (.int (aCircle m0 tk))) mi ml) : ∀ (j g : Nat) (mi : zI), g + j = 2 ^ mPe m0 → 1 ≤ g → mAs [21, 22] m0 mi → iH mi → iT mi tk → Wf (d + 4) 226 7 [.ref 0, .int (mKnown m0), .int (Int32.ofNat (cBest m0 tk g)), .int (Int32.ofNat g)] [] zMS zMR mi ml Q := by
  obtain ⟨q1, q2⟩ := iP_of hp
  obtain ⟨x1, x2, x3, x4⟩ := pow_tri _ hp
  intro j
  induction j with
  | zero =>
    intro g mi e h1 hA hi hT
    have e0 : mi 0 0 = Int32.ofNat (mPe m0) := by rw [hA 0 0 (by decide)]; exact q1
    refine B_226_7 _ _ _ ?_
    rw [e0, n_pow _ (by omega)]
    refine ⟨fun _ => ?_, fun x => absurd ((n_le (by omega) (by omega)).mpr (by omega)) x⟩
    rw [show g = 2 ^ mPe m0 by omega]; exact hQ mi hA
  | succ j ih =>
    intro g mi e h1 hA hi hT
    have e0 : mi 0 0 = Int32.ofNat (mPe m0) := by rw [hA 0 0 (by decide)]; exact q1
    have hb := cBest_lt m0 tk g
    obtain ⟨o1, o2⟩ := oN_ok g (by omega)
    obtain ⟨o3, o4⟩ := oN_ok (cBest m0 tk g) (by omega)
    refine B_226_7 _ _ _ ?_
    rw [e0, n_pow _ (by omega)]
    refine ⟨fun x => absurd ((n_le (by omega) (by omega)).mp x) (by omega), fun _ => t_184 _ (t_184 _ ?_)⟩
    rw [o1, o3, n_suc]
    have hc : ∀ mi', mAs [21, 22] m0 mi' → iH mi' → iT mi' tk → _ := fun mi' a b c => ih (g + 1) mi' (by omega) (by omega) a b c
    rw [cBest] at hc
    refine ⟨fun x => ?_, fun x => ?_⟩
    · have x := (n_le (by omega) (by omega)).mp x
      rw [if_neg (fun q => by omega)] at hc
      exact hc mi hA hi hT
    · have x : oN (cBest m0 tk g) < oN g := by
        refine Decidable.byContradiction fun q => x ((n_le (by omega) (by omega)).mpr (by omega))
      rw [← mKnown_as hA]
      refine t_227 (tk := tk) hi (iP_u hA.e.u hp) hT (fun mi' hA' => ⟨fun y => ?_, fun y => ?_⟩)
      · rw [if_neg (fun q => by rw [if_pos ((cOK_as hA tk g).mpr q.2.2)] at y; exact absurd y (by decide))] at hc
        rw [mKnown_as hA]
        exact hc mi' (hA.trans hA') (iH_as hA' hi) (iT_as hA' hT)
      · have hok : cOK m0 tk g := (cOK_as hA tk g).mp (Decidable.byContradiction fun q => y (by rw [if_neg q]))
        rw [if_pos ⟨h1, x, hok⟩] at hc
        rw [mKnown_as hA]
        exact hc mi' (hA.trans hA') (iH_as hA' hi) (iT_as hA' hT)
theorem t_226 {K : Int32 → zI → zJ → Prop} {tk : Nat → List Nat} {n : Nat} {mi : zI} (hA : iA n mi tk) (h : ∀ mi', mT mi mi' → K (aCircle mi tk) mi' ml) : TI (d + 5) 226 [.ref 0] zMS zMR mi ml K := by
  obtain ⟨x1, x2, x3, x4⟩ := pow_tri _ hA.2.1
  refine TI_of (B_226 (t_183 hA.1 hA.2.1 ?_))
  exact t_226_7 (d := d + 1) (tk := tk) hA.2.1 (fun mi' hA' => h mi' hA'.e.1) (2 ^ mPe mi - 1) 1 mi (by omega) (by decide) mAs.rfl hA.1 hA.2.2.1
theorem t_228_18 {Q : zQ} {tk : Nat → List Nat} {m0 : zI} (hp : iP m0) (hQ : ∀ mi, mAs [21, 22] m0 mi → Q (some (.int (if 4 < mLaw m0 0 - Int32.ofNat (cMost m0 tk (2 ^ mPe m0)) then -5 else mLaw m0 0 - Int32.ofNat (cMost m0 tk (2 ^ mPe m0))))) mi ml) : ∀ (j g : Nat) (mi : zI), g + j = 2 ^ mPe m0 → 1 ≤ g → mAs [21, 22] m0 mi → iH mi → iT mi tk → Wf (d + 4) 228 18 [.ref 0, .int (mLaw m0 0), .int (mKnown m0), .int (Int32.ofNat (cMost m0 tk g)), .int (Int32.ofNat g), .retAddr 0] [] zMS zMR mi ml Q := by
  obtain ⟨q1, q2⟩ := iP_of hp
  obtain ⟨x1, x2, x3, x4⟩ := pow_tri _ hp
  intro j
  induction j with
  | zero =>
    intro g mi e h1 hA hi hT
    have e0 : mi 0 0 = Int32.ofNat (mPe m0) := by rw [hA 0 0 (by decide)]; exact q1
    refine B_228_18 _ _ _ _ ?_
    rw [e0, n_pow _ (by omega)]
    refine ⟨fun _ => ?_, fun x => absurd ((n_le (by omega) (by omega)).mpr (by omega)) x⟩
    rw [show g = 2 ^ mPe m0 by omega]
    refine ⟨fun x => ?_, fun x => ?_⟩
    · have := hQ mi hA; rw [if_pos x] at this; exact this
    · have := hQ mi hA; rw [if_neg x] at this; exact this
  | succ j ih =>
    intro g mi e h1 hA hi hT
    have e0 : mi 0 0 = Int32.ofNat (mPe m0) := by rw [hA 0 0 (by decide)]; exact q1
    have hb := cMost_le m0 tk g (by omega)
    obtain ⟨o1, o2⟩ := oN_ok g (by omega)
    refine B_228_18 _ _ _ _ ?_
    rw [e0, n_pow _ (by omega)]
    refine ⟨fun x => absurd ((n_le (by omega) (by omega)).mp x) (by omega), fun _ => t_184 _ ?_⟩
    rw [o1, n_suc]
    have hc : ∀ mi', mAs [21, 22] m0 mi' → iH mi' → iT mi' tk → _ := fun mi' a b c => ih (g + 1) mi' (by omega) (by omega) a b c
    rw [cMost] at hc
    refine ⟨fun x => ?_, fun x => t_184 _ ?_⟩
    · rw [if_neg (fun q => absurd x (Int32.not_lt.mpr q.2.1))] at hc
      exact hc mi hA hi hT
    rw [o1]
    refine ⟨fun y => ?_, fun y => ?_⟩
    · have y := (n_le (by omega) (by omega)).mp y
      rw [if_neg (fun q => by omega)] at hc
      exact hc mi hA hi hT
    · have y : cMost m0 tk g < oN g := by
        refine Decidable.byContradiction fun q => y ((n_le (by omega) (by omega)).mpr (by omega))
      rw [hA 0 1 (by decide), hA 0 3 (by decide)]
      refine t_196 ⟨fun z => ?_, fun z => ?_⟩
      · rw [if_neg (fun q => by rw [if_pos q.2.2.2.1] at z; exact absurd z (by decide))] at hc
        exact hc mi hA hi hT
      · have hth : sThere (Int32.ofNat g) (m0 0 1) (m0 0 3) := Decidable.byContradiction fun q => z (by rw [if_neg q])
        rw [← mKnown_as hA]
        refine t_227 (tk := tk) hi (iP_u hA.e.u hp) hT (fun mi' hA' => ⟨fun w => ?_, fun w => t_184 _ ?_⟩)
        · rw [if_neg (fun q => by rw [if_pos ((cOK_as hA tk g).mpr q.2.2.2.2)] at w; exact absurd w (by decide))] at hc
          rw [mKnown_as hA]
          exact hc mi' (hA.trans hA') (iH_as hA' hi) (iT_as hA' hT)
        · have hok : cOK m0 tk g := (cOK_as hA tk g).mp (Decidable.byContradiction fun q => w (by rw [if_neg q]))
          rw [if_pos ⟨h1, Int32.not_lt.mp x, y, hth, hok⟩] at hc
          rw [mKnown_as hA, o1]
          exact hc mi' (hA.trans hA') (iH_as hA' hi) (iT_as hA' hT)
theorem t_228 {K : Int32 → zI → zJ → Prop} {tk : Nat → List Nat} {n : Nat} {mi : zI} (hA : iA n mi tk) (h : ∀ mi', mT mi mi' → K (aStrangers mi tk) mi' ml) : TI (d + 5) 228 [.ref 0] zMS zMR mi ml K := by
  obtain ⟨x1, x2, x3, x4⟩ := pow_tri _ hA.2.1
  unfold aStrangers at h
  refine TI_of (B_228 (t_162 (d := d + 2) hA.1 0 (t_192 (d := d + 1) hA.1 ⟨fun x => t_183 hA.1 hA.2.1 ?_, fun x => ?_⟩)))
  · refine t_228_18 (d := d + 1) (tk := tk) hA.2.1 (fun mi' hA' => ?_) (2 ^ mPe mi - 1) 1 mi (by omega) (by decide) mAs.rfl hA.1 hA.2.2.1
    have := h mi' hA'.e.1
    rw [if_neg (Int32.not_lt.mpr x)] at this
    exact this
  · have := h mi mT.rfl
    rw [if_pos (Int32.not_le.mp x)] at this
    exact this
end CIRCLE
