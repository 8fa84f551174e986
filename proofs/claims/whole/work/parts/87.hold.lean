/-! A text by its clauses, and what the model makes of it. -/
def cLaw (w : Nat) : Nat → List pCl → Nat
  | n0, [] => n0
  | n0, c :: cs => cLaw w (if c.1 = w then c.2.1 else n0) cs
def nmP (k : Nat) : Nat → Int32 := sNm (Int32.ofNat (pA k)) (Int32.ofNat (pB k)) 99 99 99 99
def cBarB (cs : List pCl) (k : Nat) : Bool := cs.any (fun c => decide (c.1 = 3) && sTrue (nmP k) c.2.2)
def cWor1 (nm : Nat → Int32) (s : Int32) (c : pCl) : Int32 := if c.1 = 4 ∧ sTrue nm c.2.2 = true then s + Int32.ofNat c.2.1 else s
def cWor (nm : Nat → Int32) (cs : List pCl) : Int32 := cs.foldl (cWor1 nm) 0
def iCs (cs : List pCl) : Prop := ∀ c, c ∈ cs → c.1 < 5 ∧ c.2.1 < 100 ∧ (3 ≤ c.1 → sOK c.2.2 0)
def iHold (m : zI) (cs : List pCl) : Prop := (m 0 13 = -1 ∧ cs = []) ∨ ∃ p : Nat, p < 6 ∧ m 0 13 = Int32.ofNat p ∧ xTxt m p cs
def cAt (cs : List pCl) (k : Nat) : pCl := cs.getD k (0, 0, [])
def tkOf (cs : List pCl) (k : Nat) : List Nat := (cAt cs k).2.2
theorem cLaw_snoc (w : Nat) (c : pCl) : ∀ (cs : List pCl) (n0 : Nat), cLaw w n0 (cs ++ [c]) = if c.1 = w then c.2.1 else cLaw w n0 cs
  | [], n0 => rfl
  | x :: cs, n0 => by rw [List.cons_append, cLaw, cLaw_snoc w c cs, cLaw]
theorem cLaw_lt {w : Nat} : ∀ (cs : List pCl) (n0 : Nat), iCs cs → n0 < 100 → cLaw w n0 cs < 100
  | [], n0, _, h => h
  | c :: cs, n0, hc, h => by
    rw [cLaw]
    refine cLaw_lt cs _ (fun x hx => hc x (List.mem_cons_of_mem _ hx)) ?_
    split
    · exact (hc c (List.mem_cons_self ..)).2.1
    · exact h
theorem takec {cs : List pCl} {k : Nat} (h : k < cs.length) : cs.take (k + 1) = cs.take k ++ [cAt cs k] := by
  rw [List.take_add_one, cAt, List.getD_eq_getElem?_getD, List.getElem?_eq_getElem h]
  rfl
theorem cAt_mem {cs : List pCl} {k : Nat} (h : k < cs.length) : cAt cs k ∈ cs := by
  rw [cAt, List.getD_eq_getElem?_getD, List.getElem?_eq_getElem h]; exact List.getElem_mem _
/-- the row of a clause -/
theorem xCs_at {m : zI} {b cd : Nat} : ∀ (cs : List pCl) (k0 a0 k : Nat), xCs m b k0 a0 cs → mCodes m (cd + a0) (aTk cs) → k < cs.length → m 7 (b + (k0 + k)) = Int32.ofNat (cAt cs k).1 ∧ m 8 (b + (k0 + k)) = Int32.ofNat (cAt cs k).2.1 ∧ ∃ a, m 9 (b + (k0 + k)) = Int32.ofNat a ∧ m 10 (b + (k0 + k)) = Int32.ofNat (a + (tkOf cs k).length) ∧ a + (tkOf cs k).length ≤ a0 + (aTk cs).length ∧ mCodes m (cd + a) (tkOf cs k)
  | [], _, _, _, _, _, h => absurd h (Nat.not_lt_zero _)
  | c :: cs, k0, a0, 0, h, hC, _ => by
    obtain ⟨⟨h1, h2, h3, h4⟩, -⟩ := h
    have spl : ∀ (l r : List Nat) (x : Nat), mCodes m x (l ++ r) → mCodes m x l ∧ mCodes m (x + l.length) r := by
      intro l
      induction l with
      | nil => intro r x h; exact ⟨trivial, h⟩
      | cons y l ih =>
        intro r x h
        obtain ⟨a1, a2⟩ := ih r (x + 1) h.2
        exact ⟨⟨h.1, a1⟩, by rw [List.length_cons, show x + (l.length + 1) = x + 1 + l.length by omega]; exact a2⟩
    rw [aTk] at hC
    refine ⟨h1, h2, a0, h3, h4, ?_, (spl _ _ _ hC).1⟩
    rw [aTk, List.length_append]
    show a0 + c.2.2.length ≤ _
    omega
  | c :: cs, k0, a0, k + 1, h, hC, hk => by
    have spl : ∀ (l r : List Nat) (x : Nat), mCodes m x (l ++ r) → mCodes m (x + l.length) r := by
      intro l
      induction l with
      | nil => intro r x h; exact h
      | cons y l ih =>
        intro r x h
        have a2 := ih r (x + 1) h.2
        rw [List.length_cons, show x + (l.length + 1) = x + 1 + l.length by omega]; exact a2
    rw [aTk] at hC
    have hC2 := spl _ _ _ hC
    rw [Nat.add_assoc] at hC2
    simp only [List.length_cons] at hk
    obtain ⟨e1, e2, a, e3, e4, e5, e6⟩ := xCs_at cs (k0 + 1) (a0 + c.2.2.length) k h.2 hC2 (by omega)
    rw [show k0 + 1 + k = k0 + (k + 1) by omega] at e1 e2 e3 e4
    refine ⟨e1, e2, a, e3, e4, ?_, e6⟩
    rw [aTk, List.length_append]
    show a + (tkOf cs k).length ≤ _
    omega
section HOLD
variable {m : zI} {cs : List pCl}
theorem hold_N (h : iHold m cs) : iH m ∧ mN m = cs.length ∧ cs.length ≤ 10 := by
  rcases h with ⟨h, rfl⟩ | ⟨p, hp, h, h6, h10, -⟩
  · refine ⟨.inl h, ?_, Nat.zero_le _⟩
    unfold mN; rw [h, if_neg (by decide)]; rfl
  · obtain ⟨e1, e2⟩ := mN_of hp h10 h h6
    exact ⟨.inr ⟨p, cs.length, hp, h10, h, h6⟩, e2, h10⟩
theorem hold_at (h : iHold m cs) {k : Nat} (hk : k < cs.length) : mP m < 6 ∧ m 0 13 = Int32.ofNat (mP m) ∧ m 7 (10 * mP m + k) = Int32.ofNat (cAt cs k).1 ∧ m 8 (10 * mP m + k) = Int32.ofNat (cAt cs k).2.1 ∧ ∃ a, m 9 (10 * mP m + k) = Int32.ofNat a ∧ m 10 (10 * mP m + k) = Int32.ofNat (a + (tkOf cs k).length) ∧ a + (tkOf cs k).length ≤ 100 ∧ mCodes m (120 * mP m + a) (tkOf cs k) := by
  rcases h with ⟨h, rfl⟩ | ⟨p, hp, h, h6, h10, hx, hC, hl⟩
  · exact absurd hk (Nat.not_lt_zero _)
  · obtain ⟨e1, e2⟩ := mN_of hp h10 h h6
    rw [e1]
    obtain ⟨a1, a2, a, a3, a4, a5, a6⟩ := xCs_at cs 0 0 k hx hC hk
    rw [Nat.zero_add] at a1 a2 a3 a4
    exact ⟨hp, h, a1, a2, a, a3, a4, by omega, a6⟩
theorem hold_T (h : iHold m cs) (hc : iCs cs) : iT m (tkOf cs) := by
  intro k hk hw
  rw [(hold_N h).2.1] at hk
  obtain ⟨b1, b2, a1, a2, a, a3, a4, a5, a6⟩ := hold_at h hk
  obtain ⟨c1, c2, c3⟩ := hc _ (cAt_mem hk)
  refine ⟨a, a3, a4, by omega, a6, c3 ?_⟩
  rw [a1] at hw
  rcases hw with hw | hw
  · have := (n_eq (b := 3) (by omega) (by decide)).mp hw; omega
  · have := (n_eq (b := 4) (by omega) (by decide)).mp hw; omega
theorem hold_law (h : iHold m cs) (hc : iCs cs) {w : Nat} (hw : w < 3) : mLaw m (Int32.ofNat w) = Int32.ofNat (cLaw w (if w = 0 then 2 else if w = 1 then 1 else 0) cs) := by
  have : ∀ (n0 k : Nat), k ≤ cs.length → sLaw m (Int32.ofNat w) (Int32.ofNat n0) k = Int32.ofNat (cLaw w n0 (cs.take k)) := by
    intro n0 k
    induction k with
    | zero => intro _; rfl
    | succ k ih =>
      intro hk
      obtain ⟨b1, b2, a1, a2, -⟩ := hold_at h (k := k) (by omega)
      obtain ⟨c1, c2, c3⟩ := hc _ (cAt_mem (cs := cs) (k := k) (by omega))
      rw [sLaw, ih (by omega), takec (by omega), cLaw_snoc, a1, a2]
      by_cases e : (cAt cs k).1 = w
      · rw [if_pos e, if_pos (by rw [e])]
      · rw [if_neg e, if_neg (fun q => e ((n_eq (by omega) (by omega)).mp q))]
  have hl := this (if w = 0 then 2 else if w = 1 then 1 else 0) cs.length (Nat.le_refl _)
  rw [List.take_length] at hl
  unfold mLaw
  rw [(hold_N h).2.1, ← hl]
  have h3 : w = 0 ∨ w = 1 ∨ w = 2 := by omega
  rcases h3 with rfl | rfl | rfl <;> rfl
theorem hold_bar (h : iHold m cs) (hc : iCs cs) {k : Nat} (hk : k < 10) : mBars m (tkOf cs) k ↔ cBarB cs k = true := by
  have : ∀ (nm : Nat → Int32) (n j : Nat), j + n = cs.length → sBar m (tkOf cs) nm n j = (cs.drop j).any (fun c => decide (c.1 = 3) && sTrue nm c.2.2) := by
    intro nm n
    induction n with
    | zero => intro j e; rw [List.drop_eq_nil_of_le (by omega)]; rfl
    | succ n ih =>
      intro j e
      obtain ⟨b1, b2, a1, a2, -⟩ := hold_at h (k := j) (by omega)
      obtain ⟨c1, c2, c3⟩ := hc _ (cAt_mem (cs := cs) (k := j) (by omega))
      have ed : cs.drop j = cAt cs j :: cs.drop (j + 1) := by
        rw [List.drop_eq_getElem_cons (by omega), cAt, List.getD_eq_getElem?_getD, List.getElem?_eq_getElem (by omega)]; rfl
      rw [sBar, ih (j + 1) (by omega), ed, List.any_cons, a1]
      congr 2
      apply decide_eq_decide.mpr
      exact n_eq (b := 3) (by omega) (by decide)
  unfold mBars mBar cBarB
  rw [(hold_N h).2.1, this _ cs.length 0 (by omega), List.drop_zero]
  have pab : ∀ k : Nat, k < 10 → min (pA k) (pB k) = pA k ∧ max (pA k) (pB k) = pB k := by decide
  rw [(pab k hk).1, (pab k hk).2]
  exact Iff.rfl
theorem hold_wor (h : iHold m cs) (hc : iCs cs) (g : Int32) : mWor m (tkOf cs) g = cWor (mNm m g) cs := by
  have : ∀ (nm : Nat → Int32) (k : Nat), k ≤ cs.length → sWor m (tkOf cs) nm k = cWor nm (cs.take k) := by
    intro nm k
    induction k with
    | zero => intro _; rfl
    | succ k ih =>
      intro hk
      obtain ⟨b1, b2, a1, a2, -⟩ := hold_at h (k := k) (by omega)
      obtain ⟨c1, c2, c3⟩ := hc _ (cAt_mem (cs := cs) (k := k) (by omega))
      rw [sWor, ih (by omega), takec (by omega), a1, a2]
      unfold cWor
      rw [List.foldl_append]
      show _ = cWor1 nm (List.foldl (cWor1 nm) 0 (List.take k cs)) (cAt cs k)
      unfold cWor1
      have e4 : Int32.ofNat (cAt cs k).1 = 4 ↔ (cAt cs k).1 = 4 := n_eq (b := 4) (by omega) (by decide)
      by_cases e : (cAt cs k).1 = 4 ∧ sTrue nm (cAt cs k).2.2 = true
      · rw [if_pos e, if_pos ⟨e4.mpr e.1, e.2⟩]
      · rw [if_neg e, if_neg (fun q => e ⟨e4.mp q.1, q.2⟩)]
  unfold mWor
  rw [(hold_N h).2.1, this _ _ (Nat.le_refl _), List.take_length]
end HOLD
/-- closed pairs: known, or barred -/
def clN (m : zI) (cs : List pCl) : Nat := bN (fun k => mKnows m k ∨ cBarB cs k = true) 10
theorem clN_lt (m : zI) (cs : List pCl) : clN m cs < 1024 := bN_lt _ 10
theorem bN_or (f g : Nat → Prop) [DecidablePred f] [DecidablePred g] (n : Nat) : bN f n ||| bN g n = bN (fun k => f k ∨ g k) n := by
  apply Nat.eq_of_testBit_eq
  intro j
  rw [Nat.testBit_or, bN_bit, bN_bit, bN_bit]
  by_cases h : j < n <;> by_cases hf : f j <;> by_cases hg : g j <;> simp [h, hf, hg]
theorem and0_iff (a b : Nat) : a &&& b = 0 ↔ ∀ j, a.testBit j = true → b.testBit j = false := by
  constructor
  · intro h j hj
    have := congrArg (fun x => x.testBit j) h
    simp only [Nat.testBit_and, Nat.zero_testBit, hj, Bool.true_and] at this
    exact this
  · intro h
    apply Nat.eq_of_testBit_eq
    intro j
    rw [Nat.testBit_and, Nat.zero_testBit]
    cases e : a.testBit j with
    | false => rfl
    | true => rw [h j e]; rfl
theorem gp_tri : ∀ p : Nat, p < 6 → ∀ g : Nat, g < 32 → ∀ k : Nat, k < 10 → g < 2 ^ p → (gpN g).testBit k = true → k < sTri p := by decide +kernel
theorem gp_and {f : Nat → Prop} [DecidablePred f] {g n : Nat} (hg : g < 32) (hn : n ≤ 10) : gPairs g &&& sBits f n = 0 ↔ ∀ k, k < n → (gpN g).testBit k = true → ¬ f k := by
  obtain ⟨p1, p2⟩ := gpN_ok g hg
  have hb := bN_lt f n
  have hle : 2 ^ n ≤ 2 ^ 10 := Nat.pow_le_pow_right (by decide) hn
  have hlt : gpN g &&& bN f n < 2147483648 := Nat.lt_of_le_of_lt Nat.and_le_left (by omega)
  rw [p1, sBits_bN f n (by omega), n_and]
  have e : Int32.ofNat (gpN g &&& bN f n) = 0 ↔ gpN g &&& bN f n = 0 := n_eq (b := 0) hlt (by decide)
  rw [e, and0_iff]
  constructor
  · intro h k hk hb hf
    have := h k hb
    rw [bN_bit, decide_eq_false_iff_not] at this
    exact this ⟨hk, hf⟩
  · intro h j hj
    rw [bN_bit, decide_eq_false_iff_not]
    exact fun q => h j q.1 hj q.2
/-- a group may go: by the class's words -/
abbrev opP (m : zI) (cs : List pCl) (g : Nat) : Prop := 1 ≤ g ∧ gSub g (hN m) ∧ (cLaw 1 1 cs ≤ oN g ∧ oN g ≤ cLaw 0 2 cs) ∧ gpN g &&& clN m cs = 0
theorem oN_pos : ∀ g : Nat, g < 32 → 1 ≤ g → 1 ≤ oN g := by decide +kernel
theorem gp_10 {g k : Nat} (hg : g < 32) (h : (gpN g).testBit k = true) : k < 10 := by
  refine Nat.lt_of_not_le (fun q => ?_)
  rw [Nat.testBit_lt_two_pow (Nat.lt_of_lt_of_le (gpN_ok g hg).2 (show 1024 ≤ 2 ^ k from Nat.pow_le_pow_right (n := 2) (i := 10) (by decide) q))] at h
  exact absurd h (by decide)
theorem n_sh2 : ∀ p : Nat, p < 6 → ∀ g : Nat, g < 32 → (Int32.ofNat g >>> (Int32.ofNat p &&& 31) = 0 ↔ g < 2 ^ p) := by decide +kernel
theorem op_iff {m : zI} {cs : List pCl} {n : Nat} (hA : iA n m (tkOf cs)) (hL : iL m (tkOf cs)) (hH : iHold m cs) (hc : iCs cs) {g : Nat} (hg : g < 32) : opP m cs g ↔ 1 ≤ g ∧ mGoes m g := by
  obtain ⟨a1, a2, a3, a4, a5, a6, a7⟩ := hA
  obtain ⟨q1, q2⟩ := iP_of a2
  have hs := hN_sub a2 a4 a5 hg
  obtain ⟨o1, o2⟩ := oN_ok g hg
  have l1 : mLaw m 1 = Int32.ofNat (cLaw 1 1 cs) := hold_law hH hc (w := 1) (by decide)
  have l0 : mLaw m 0 = Int32.ofNat (cLaw 0 2 cs) := hold_law hH hc (w := 0) (by decide)
  have b1 := cLaw_lt (w := 1) cs 1 hc (by decide)
  have b0 := cLaw_lt (w := 0) cs 2 hc (by decide)
  have t10 := sTri_le _ q2
  have hcl : gpN g &&& clN m cs = 0 ↔ ∀ k, (gpN g).testBit k = true → ¬ mKnows m k ∧ ¬ cBarB cs k = true := by
    rw [and0_iff]
    constructor
    · intro h k hk
      have := h k hk
      rw [clN, bN_bit, decide_eq_false_iff_not] at this
      exact ⟨fun q => this ⟨gp_10 hg hk, .inl q⟩, fun q => this ⟨gp_10 hg hk, .inr q⟩⟩
    · intro h k hk
      rw [clN, bN_bit, decide_eq_false_iff_not]
      exact fun q => q.2.elim (h k hk).1 (h k hk).2
  have hcould : ¬ m 24 g = 0 ↔ mCould m (tkOf cs) g := by
    rw [(hL g hg).2]
    by_cases q : mCould m (tkOf cs) g
    · rw [if_pos q]; exact ⟨fun _ => q, fun _ => by decide⟩
    · rw [if_neg q]; exact ⟨fun r => absurd rfl r, fun r => absurd r q⟩
  unfold opP mGoes mMay
  rw [hcould, hcl, hs, (hL g hg).1]
  unfold mCould mLeast
  rw [q1, n_sh2 _ q2 g hg, l1, l0, o1, n_le (show oN g < 2147483648 by omega) (show cLaw 0 2 cs < 2147483648 by omega)]
  have hkn : gPairs g &&& mKnown m = 0 ↔ ∀ k, k < sTri (mPe m) → (gpN g).testBit k = true → ¬ mKnows m k := gp_and hg t10
  have hba : gPairs g &&& mBarred m (tkOf cs) = 0 ↔ ∀ k, k < sTri (mPe m) → (gpN g).testBit k = true → ¬ mBars m (tkOf cs) k := gp_and hg t10
  rw [hkn, hba]
  have hlea : 1 ≤ g → ((if Int32.ofNat (cLaw 1 1 cs) < 1 then (1 : Int32) else Int32.ofNat (cLaw 1 1 cs)) ≤ Int32.ofNat (oN g) ↔ cLaw 1 1 cs ≤ oN g) := by
    intro h1
    have := oN_pos g hg h1
    by_cases e : cLaw 1 1 cs = 0
    · rw [if_pos (by rw [e]; decide)]
      have : (1 : Int32) ≤ Int32.ofNat (oN g) ↔ 1 ≤ oN g := n_le (a := 1) (by decide) (by omega)
      rw [this]; omega
    · rw [if_neg (fun q => e (by have := (n_lt (b := 1) (by omega) (by decide)).mp q; omega)), n_le (by omega) (by omega)]
  constructor
  · rintro ⟨h1, ⟨h2, h3⟩, ⟨h4, h5⟩, h6⟩
    exact ⟨h1, ⟨h2, ⟨(hlea h1).mpr h4, h5⟩, fun k _ hk => fun q => (h6 k hk).2 ((hold_bar hH hc (gp_10 hg hk)).mp q)⟩, h3, fun k _ hk => (h6 k hk).1⟩
  · rintro ⟨h1, ⟨h2, ⟨h4, h5⟩, h6⟩, h3, h7⟩
    refine ⟨h1, ⟨h2, h3⟩, ⟨(hlea h1).mp h4, h5⟩, fun k hk => ?_⟩
    have ht := gp_tri _ q2 g hg k (gp_10 hg hk) h2 hk
    exact ⟨h7 k ht hk, fun q => h6 k ht hk ((hold_bar hH hc (gp_10 hg hk)).mpr q)⟩
