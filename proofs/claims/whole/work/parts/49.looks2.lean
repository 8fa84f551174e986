-- @after: 00.privs 01.names 02.code 03.tabs 04.mach 05.rows 26.rows2 27.wp 28.mem 30.bc0 34.bm0 35.bm1 40.num 41.leaf 42.laws 43.known 44.post 45.holds 46.worth 47.barred 48.looks
/-! The model: pairsIn and could, laid anew. -/
def hiL (l : List Nat) : Prop := ∀ c, c ∈ l → 20 ≤ c
theorem hiL.out {l : List Nat} (h : hiL l) {c : Nat} (hc : c < 20) : ¬ c ∈ l := fun q => by have := h c q; omega
theorem mP_hi {l : List Nat} (hl : hiL l) {mi mi' : zI} (h : mAs l mi mi') : mP mi' = mP mi := by unfold mP; rw [h 0 13 (hl.out (by decide))]
theorem mN_hi {l : List Nat} (hl : hiL l) {mi mi' : zI} (h : mAs l mi mi') : mN mi' = mN mi := by unfold mN; rw [mP_hi hl h, h 0 13 (hl.out (by decide)), h 6 _ (hl.out (by decide))]
theorem mPe_hi {l : List Nat} (hl : hiL l) {mi mi' : zI} (h : mAs l mi mi') : mPe mi' = mPe mi := by unfold mPe; rw [h 0 0 (hl.out (by decide))]
theorem iH_hi {l : List Nat} (hl : hiL l) {mi mi' : zI} (h : mAs l mi mi') (q : iH mi) : iH mi' := by
  rcases q with q | ⟨p, n, hp, hn, h1, h2⟩
  · exact .inl (by rw [h 0 13 (hl.out (by decide))]; exact q)
  · exact .inr ⟨p, n, hp, hn, by rw [h 0 13 (hl.out (by decide))]; exact h1, by rw [h 6 _ (hl.out (by decide))]; exact h2⟩
theorem iP_hi {l : List Nat} (hl : hiL l) {mi mi' : zI} (h : mAs l mi mi') (q : iP mi) : iP mi' := by
  obtain ⟨p, h1, h2⟩ := q
  exact ⟨p, h1, by rw [h 0 0 (hl.out (by decide))]; exact h2⟩
theorem mLaw_hi {l : List Nat} (hl : hiL l) {mi mi' : zI} (h : mAs l mi mi') (w : Int32) : mLaw mi' w = mLaw mi w := by
  have : ∀ n0 k, sLaw mi' w n0 k = sLaw mi w n0 k := by
    intro n0 k
    induction k with
    | zero => rfl
    | succ k ih => rw [sLaw, sLaw, ih, mP_hi hl h, h 7 _ (hl.out (by decide)), h 8 _ (hl.out (by decide))]
  unfold mLaw; rw [mN_hi hl h, this]
theorem mLeast_hi {l : List Nat} (hl : hiL l) {mi mi' : zI} (h : mAs l mi mi') : mLeast mi' = mLeast mi := by unfold mLeast; rw [mLaw_hi hl h]
theorem mCodes_hi {l : List Nat} (hl : hiL l) {mi mi' : zI} (h : mAs l mi mi') : ∀ {t : List Nat} {k : Nat}, mCodes mi k t → mCodes mi' k t
  | [], _, _ => trivial
  | _ :: _, k, q => ⟨by rw [h 11 k (hl.out (by decide))]; exact q.1, mCodes_hi hl h q.2⟩
theorem iT_hi {l : List Nat} (hl : hiL l) {mi mi' : zI} (h : mAs l mi mi') {tk : Nat → List Nat} (q : iT mi tk) : iT mi' tk := by
  intro k hk hw
  rw [mN_hi hl h] at hk
  rw [mP_hi hl h, h 7 _ (hl.out (by decide))] at hw
  rw [mP_hi hl h]
  obtain ⟨a, h1, h2, h3, h4, h5⟩ := q k hk hw
  exact ⟨a, by rw [h 9 _ (hl.out (by decide))]; exact h1, by rw [h 10 _ (hl.out (by decide))]; exact h2, h3, mCodes_hi hl h h4, h5⟩
theorem mAs.sub {l l' : List Nat} {a b : zI} (h : mAs l a b) (hs : ∀ c, c ∈ l → c ∈ l') : mAs l' a b := fun c k hc => h c k (fun q => hc (hs c q))
/-- both of a pair are in a group -/
abbrev gPair (g k : Nat) : Prop := ((Int32.ofNat g >>> (Int32.ofNat (pA k) &&& 31)) &&& (Int32.ofNat g >>> (Int32.ofNat (pB k) &&& 31))) &&& 1 = 1
def gPairs (g : Nat) : Int32 := sBits (gPair g) 10
theorem gPairs_tab : ∀ g : Nat, g < 32 → gPairs g = (zTab 1).getD g 0 := by decide +kernel
abbrev mCould (mi : zI) (tk : Nat → List Nat) (g : Nat) : Prop := Int32.ofNat g >>> (mi 0 0 &&& 31) = 0 ∧ (mLeast mi ≤ sOnes (Int32.ofNat g) 10 ∧ sOnes (Int32.ofNat g) 10 ≤ mLaw mi 0) ∧ gPairs g &&& mBarred mi tk = 0
/-- the first groups are laid -/
def iG (m0 : zI) (tk : Nat → List Nat) (n : Nat) (mi : zI) : Prop := mAs [21, 22, 23, 24] m0 mi ∧ ∀ g, g < n → mi 23 g = gPairs g ∧ mi 24 g = if mCould m0 tk g then 1 else 0
theorem hi4 : hiL [21, 22, 23, 24] := by unfold hiL; decide
section LOOKS2
variable {d : Nat} {ml : zJ}
theorem t_191_55 {Q : zQ} {tk : Nat → List Nat} {m0 : zI} {x1 : Int32} {g b : Nat} (hg : g < 32) (hb : b < 5)
    (hQ : ∀ mi, iG m0 tk g mi → mi 23 g = sBits (gPair g) (sTri (b + 1)) → Wf (d + 4) 191 50 [.ref 0, .int x1, .int (Int32.ofNat g), .int (Int32.ofNat (b + 1)), .retAddr 0] [] zMS zMR mi ml Q) :
    ∀ (m a : Nat) (mi : zI), a + m = b → iG m0 tk g mi → mi 23 g = sBits (gPair g) (sTri b + a) → Wf (d + 4) 191 55 [.ref 0, .int x1, .int (Int32.ofNat g), .int (Int32.ofNat b), .int (Int32.ofNat a)] [] zMS zMR mi ml Q
  | 0, a, mi, e, hG, hv => by
    obtain rfl : a = b := by omega
    refine B_191_55 _ _ _ _ ⟨fun _ => ?_, fun n => absurd (Int32.le_refl _) n⟩
    rw [n_suc]
    exact hQ mi hG (by rw [hv, sTri_suc a hb])
  | m + 1, a, mi, e, hG, hv => by
    obtain ⟨p1, p2, p3, p4⟩ := pAB b hb a (by omega)
    have hz : zin (Int32.ofNat g) 32 = true := n_zin hg (by omega)
    have eg : gPair g (sTri b + a) ↔ ((Int32.ofNat g >>> (Int32.ofNat a &&& 31)) &&& (Int32.ofNat g >>> (Int32.ofNat b &&& 31))) &&& 1 = 1 := by unfold gPair; rw [p1, p2]
    have fin : ∀ v, v = sBits (gPair g) (sTri b + (a + 1)) → Wf (d + 4) 191 55 [.ref 0, .int x1, .int (Int32.ofNat g), .int (Int32.ofNat b), .int (Int32.ofNat (a + 1))] [] zMS zMR (zu mi 23 g v) ml Q := by
      intro v hv1
      refine t_191_55 hg hb hQ m (a + 1) _ (by omega) ⟨hG.1.put (by decide), fun g' hg' => ?_⟩ (by rw [zu_eq]; exact hv1)
      rw [zu_nk (by omega), zu_nc (by decide)]
      exact hG.2 g' hg'
    refine B_191_55 _ _ _ _ ⟨fun n => absurd ((n_le (by omega) (by omega)).mp n) (by omega), fun _ => ⟨hz, fun n => ⟨hz, ?_⟩, fun n => t_158 (by omega) hb ⟨hz, ?_⟩⟩⟩
    · rw [n_suc, n_cl (by omega), hv, Int32.or_zero]
      exact fin _ (by rw [← Nat.add_assoc, sBits, if_neg (fun q => n (eg.mp q))])
    · rw [n_suc, n_cl (by omega), hv, p3]
      exact fin _ (by rw [← Nat.add_assoc, sBits, if_pos (eg.mpr (Decidable.not_not.mp n))]; rfl)
theorem n_and01 : ((0 : Int32) &&& 1 = 0) ∧ ((1 : Int32) &&& 1 = 1) := by decide
theorem t_191_50 {Q : zQ} {tk : Nat → List Nat} {m0 : zI} {g : Nat} (hg : g < 32) (hi : iH m0)
    (hQ : ∀ mi, iG m0 tk (g + 1) mi → Wf (d + 4) 191 39 [.ref 0, .int (mBarred m0 tk), .int (Int32.ofNat (g + 1)), .retAddr 0, .retAddr 0] [] zMS zMR mi ml Q) :
    ∀ (m b : Nat) (mi : zI), b + m = 5 → 1 ≤ b → iG m0 tk g mi → mi 23 g = sBits (gPair g) (sTri b) → Wf (d + 4) 191 50 [.ref 0, .int (mBarred m0 tk), .int (Int32.ofNat g), .int (Int32.ofNat b), .retAddr 0] [] zMS zMR mi ml Q := by
  intro m
  induction m with
  | succ m ih =>
    intro b mi e h1 hG hv
    refine B_191_50 _ _ _ ⟨fun n => absurd ((n_le (a := 5) (by omega) (by omega)).mp n) (by omega), fun _ => ?_⟩
    exact t_191_55 hg (by omega) (fun mi' hG' hv' => ih (b + 1) mi' (by omega) (by omega) hG' hv') b 0 mi (by omega) hG hv
  | zero =>
    intro b mi e h1 hG hv
    obtain rfl : b = 5 := by omega
    have hz : zin (Int32.ofNat g) 32 = true := n_zin hg (by omega)
    have hv' : mi 23 g = gPairs g := hv
    have fin : ∀ v, v = (if mCould m0 tk g then 1 else 0) → Wf (d + 4) 191 39 [.ref 0, .int (mBarred m0 tk), .int (Int32.ofNat (g + 1)), .retAddr 0, .retAddr 0] [] zMS zMR (zu mi 24 g v) ml Q := by
      intro v hv1
      refine hQ _ ⟨hG.1.put (by decide), fun g' hg' => ?_⟩
      rw [zu_nc (by decide)]
      by_cases hh : g' = g
      · subst hh; exact ⟨hv', by rw [zu_eq]; exact hv1⟩
      · rw [zu_nk hh]; exact hG.2 g' (by omega)
    have e0 : mi 0 0 = m0 0 0 := hG.1 0 0 (by decide)
    have hi' := iH_hi hi4 hG.1 hi
    refine B_191_50 _ _ _ ⟨fun _ => ⟨fun n => ⟨hz, ?_⟩, fun n => t_184 _ (t_192 hi' (t_162 hi' 0 (t_157 ⟨fun n1 => ⟨hz, ?_⟩, fun n1 => ⟨hz, fun n2 => ⟨hz, ?_⟩, fun n2 => ⟨hz, ?_⟩⟩⟩)))⟩, fun n => absurd (show (5 : Int32) ≤ Int32.ofNat 5 by decide) n⟩
    · rw [n_suc, n_cl (by omega), n_and01.1]
      exact fin _ (by rw [if_neg (fun q => n (by rw [e0]; exact q.1))])
    · rw [n_suc, n_cl (by omega), n_and01.1]
      refine fin _ ?_
      rw [if_neg]
      intro q
      rw [mLeast_hi hi4 hG.1, mLaw_hi hi4 hG.1, if_pos ⟨q.2.1.1, q.2.1.2⟩] at n1
      exact absurd n1 (by decide)
    · rw [n_suc, n_cl (by omega), n_and01.1]
      refine fin _ ?_
      rw [if_neg]
      intro q
      rw [n_cl (by omega), hv'] at n2
      exact n2 q.2.2
    · rw [n_suc, n_cl (by omega), n_and01.2]
      refine fin _ ?_
      rw [if_pos]
      rw [n_cl (by omega), hv'] at n2
      refine ⟨by rw [← e0]; exact Decidable.not_not.mp n, ?_, Decidable.not_not.mp n2⟩
      rw [mLeast_hi hi4 hG.1, mLaw_hi hi4 hG.1] at n1
      exact Decidable.byContradiction fun q => n1 (by rw [if_neg q])
theorem t_191_39 {Q : zQ} {tk : Nat → List Nat} {m0 : zI} (hi : iH m0) (hQ : ∀ mi, iG m0 tk 32 mi → Q none mi ml) :
    ∀ (m g : Nat) (mi : zI), g + m = 32 → iG m0 tk g mi → Wf (d + 4) 191 39 [.ref 0, .int (mBarred m0 tk), .int (Int32.ofNat g), .retAddr 0, .retAddr 0] [] zMS zMR mi ml Q := by
  intro m
  induction m with
  | zero =>
    intro g mi e hG
    obtain rfl : g = 32 := by omega
    exact B_191_39 _ _ ⟨fun _ => hQ mi hG, fun n => absurd (show (32 : Int32) ≤ Int32.ofNat 32 by decide) n⟩
  | succ m ih =>
    intro g mi e hG
    have hz : zin (Int32.ofNat g) 32 = true := n_zin (by omega) (by omega)
    refine B_191_39 _ _ ⟨fun n => absurd ((n_le (a := 32) (by omega) (by omega)).mp n) (by omega), fun _ => ⟨hz, ?_⟩⟩
    rw [n_cl (by omega)]
    refine t_191_50 (by omega) hi (fun mi' hG' => ih (g + 1) mi' (by omega) hG') 4 1 _ rfl (by decide) ⟨hG.1.put (by decide), fun g' hg' => ?_⟩ (by rw [zu_eq]; rfl)
    rw [zu_nk (by omega), zu_nc (by decide)]
    exact hG.2 g' hg'
/-- looks: pairsIn and could are laid anew, the rest stays but for the scratch -/
theorem t_191 {K : zI → zJ → Prop} {tk : Nat → List Nat} {mi : zI} (hi : iH mi) (hp : iP mi) (hT : iT mi tk) (h : ∀ mi', iG mi tk 32 mi' → K mi' ml) : TV (d + 4) 191 [.ref 0] zMS zMR mi ml K := by
  have h5 := (iP_of hp).2
  refine TV_of (B_191 (t_191_6 (d := d + 1) (tk := tk) (m0 := mi) hp (fun mi' hA hi' hT' => ?_) (max 1 (mPe mi) - 1) 1 mi (by omega) mAs.rfl hi hT (by decide)))
  exact t_191_39 hi h 32 0 mi' rfl ⟨hA.sub (by decide), fun g hg => absurd hg (by omega)⟩
end LOOKS2
