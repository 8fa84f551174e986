-- @after: 00.privs 01.names 02.code 03.tabs 04.mach 05.rows 26.rows2 27.wp 28.mem 30.bc0 34.bm0 35.bm1 40.num 41.leaf 42.laws 43.known 44.post 45.holds 46.worth 47.barred 48.looks 49.looks2 50.goes
/-! The model: what lasts, and which groups may go. -/
/-- the fields of the object that are scratch -/
def mScr : List Nat := [30, 31, 33, 34, 40, 43, 47]
/-- the same in all that lasts -/
def mS (mi mi' : zI) : Prop := (∀ k, ¬ k ∈ mScr → mi' 0 k = mi 0 k) ∧ ∀ c k, 1 ≤ c → c < 20 → mi' c k = mi c k
theorem mS.rfl {mi : zI} : mS mi mi := ⟨fun _ _ => Eq.refl _, fun _ _ _ _ => Eq.refl _⟩
theorem mS.trans {a b c : zI} (h1 : mS a b) (h2 : mS b c) : mS a c := ⟨fun k hk => by rw [h2.1 k hk, h1.1 k hk], fun x k p q => by rw [h2.2 x k p q, h1.2 x k p q]⟩
theorem mAs.s {l : List Nat} (hl : hiL l) {a b : zI} (h : mAs l a b) : mS a b := ⟨fun k _ => h 0 k (hl.out (by decide)), fun c k _ hc => h c k (hl.out hc)⟩
theorem mS.put {a b : zI} (h : mS a b) {c k : Nat} {v : Int32} (hc : 20 ≤ c) : mS a (zu b c k v) := ⟨fun q hq => by rw [zu_nc (by omega)]; exact h.1 q hq, fun x q p r => by rw [zu_nc (by omega)]; exact h.2 x q p r⟩
theorem mS.put0 {a b : zI} (h : mS a b) {k : Nat} {v : Int32} (hk : k ∈ mScr) : mS a (zu b 0 k v) := ⟨fun q hq => by rw [zu_nk (fun e => hq (by rw [e]; exact hk))]; exact h.1 q hq, fun x q p r => by rw [zu_nc (by omega)]; exact h.2 x q p r⟩
section LASTS
variable {mi mi' : zI}
theorem mP_s (h : mS mi mi') : mP mi' = mP mi := by unfold mP; rw [h.1 13 (by decide)]
theorem mN_s (h : mS mi mi') : mN mi' = mN mi := by unfold mN; rw [mP_s h, h.1 13 (by decide), h.2 6 _ (by decide) (by decide)]
theorem mPe_s (h : mS mi mi') : mPe mi' = mPe mi := by unfold mPe; rw [h.1 0 (by decide)]
theorem iH_s (h : mS mi mi') (q : iH mi) : iH mi' := by
  rcases q with q | ⟨p, n, hp, hn, h1, h2⟩
  · exact .inl (by rw [h.1 13 (by decide)]; exact q)
  · exact .inr ⟨p, n, hp, hn, by rw [h.1 13 (by decide)]; exact h1, by rw [h.2 6 _ (by decide) (by decide)]; exact h2⟩
theorem iP_s (h : mS mi mi') (q : iP mi) : iP mi' := by
  obtain ⟨p, h1, h2⟩ := q
  exact ⟨p, h1, by rw [h.1 0 (by decide)]; exact h2⟩
theorem mLaw_s (h : mS mi mi') (w : Int32) : mLaw mi' w = mLaw mi w := by
  have : ∀ n0 k, sLaw mi' w n0 k = sLaw mi w n0 k := by
    intro n0 k
    induction k with
    | zero => rfl
    | succ k ih => rw [sLaw, sLaw, ih, mP_s h, h.2 7 _ (by decide) (by decide), h.2 8 _ (by decide) (by decide)]
  unfold mLaw; rw [mN_s h, this]
theorem mLeast_s (h : mS mi mi') : mLeast mi' = mLeast mi := by unfold mLeast; rw [mLaw_s h]
theorem mCodes_s (h : mS mi mi') : ∀ {t : List Nat} {k : Nat}, mCodes mi k t → mCodes mi' k t
  | [], _, _ => trivial
  | _ :: _, k, q => ⟨by rw [h.2 11 k (by decide) (by decide)]; exact q.1, mCodes_s h q.2⟩
theorem iT_s (h : mS mi mi') {tk : Nat → List Nat} (q : iT mi tk) : iT mi' tk := by
  intro k hk hw
  rw [mN_s h] at hk
  rw [mP_s h, h.2 7 _ (by decide) (by decide)] at hw
  rw [mP_s h]
  obtain ⟨a, h1, h2, h3, h4, h5⟩ := q k hk hw
  exact ⟨a, by rw [h.2 9 _ (by decide) (by decide)]; exact h1, by rw [h.2 10 _ (by decide) (by decide)]; exact h2, h3, mCodes_s h h4, h5⟩
theorem sBits_congr {f g : Nat → Prop} [DecidablePred f] [DecidablePred g] : ∀ n, (∀ k, k < n → (f k ↔ g k)) → sBits f n = sBits g n
  | 0, _ => rfl
  | n + 1, h => by
    rw [sBits, sBits, sBits_congr n (fun k hk => h k (by omega))]
    by_cases q : f n
    · rw [if_pos q, if_pos ((h n (by omega)).mp q)]
    · rw [if_neg q, if_neg (fun r => q ((h n (by omega)).mpr r))]
theorem mKnown_s (h : mS mi mi') : mKnown mi' = mKnown mi := by
  unfold mKnown
  rw [mPe_s h]
  refine sBits_congr _ (fun k _ => ?_)
  unfold mKnows
  rw [h.2 1 k (by decide) (by decide), h.1 4 (by decide), mLaw_s h]
end LASTS
/-- the groups from 1 to n - 1 for which f holds -/
def gl (f : Nat → Prop) [DecidablePred f] : Nat → List Nat
  | 0 => []
  | g + 1 => if 1 ≤ g ∧ f g then gl f g ++ [g] else gl f g
theorem gl_len (f : Nat → Prop) [DecidablePred f] : ∀ n, (gl f (n + 1)).length ≤ n
  | 0 => by rw [gl, if_neg (fun q => absurd q.1 (by decide))]; exact Nat.le_refl _
  | n + 1 => by
    have ih := gl_len f n
    rw [gl]
    split
    · rw [List.length_append]; simp only [List.length_cons, List.length_nil]; omega
    · omega
/-- the same but for the list of groups -/
def mG (mi mi' : zI) : Prop := ∀ c k, c ≠ 25 → ¬ (c = 0 ∧ k = 40) → mi' c k = mi c k
theorem mG.s {mi mi' : zI} (h : mG mi mi') : mS mi mi' := ⟨fun k hk => h 0 k (by decide) (fun e => hk (by rw [e.2]; decide)), fun c k h1 h2 => h c k (by omega) (fun e => by omega)⟩
/-- the list of groups as it lies in the memory -/
def mL (mi : zI) (l : List Nat) : Prop := mi 0 40 = Int32.ofNat l.length ∧ ∀ i, i < l.length → mi 25 i = Int32.ofNat (l.getD i 0)
abbrev mGoes (mi : zI) (g : Nat) : Prop := mMay mi g (mKnown mi) (mi 0 1) (mi 0 3)
section MAYS
variable {d : Nat} {ml : zJ}
theorem t_198_at {Q : zQ} {m0 : zI} (hQ : ∀ mi, mG m0 mi → mL mi (gl (mGoes m0) 32) → Q none mi ml) :
    ∀ (m g : Nat) (mi : zI), g + m = 32 → 1 ≤ g → mG m0 mi → mL mi (gl (mGoes m0) g) → Wf (d + 3) 198 8 [.ref 0, .int (mKnown m0), .int (Int32.ofNat g)] [] zMS zMR mi ml Q
  | 0, g, mi, e, h1, hG, hL => by
    obtain rfl : g = 32 := by omega
    exact B_198_8 _ _ ⟨fun _ => hQ mi hG hL, fun n => absurd (show (32 : Int32) ≤ Int32.ofNat 32 by decide) n⟩
  | m + 1, g, mi, e, h1, hG, hL => by
    have a1 : mi 0 1 = m0 0 1 := hG 0 1 (by decide) (by decide)
    have a3 : mi 0 3 = m0 0 3 := hG 0 3 (by decide) (by decide)
    have em : mMay mi g (mKnown m0) (m0 0 1) (m0 0 3) ↔ mGoes m0 g := by
      unfold mGoes mMay; rw [hG 24 g (by decide) (fun q => absurd q.1 (by decide)), hG 23 g (by decide) (fun q => absurd q.1 (by decide))]
    refine B_198_8 _ _ ⟨fun n => absurd ((n_le (a := 32) (by omega) (by omega)).mp n) (by omega), fun _ => ?_⟩
    rw [a1, a3, n_suc]
    refine t_195 (by omega) ⟨fun n => ?_, fun n => ?_⟩
    · have hf : ¬ mGoes m0 g := fun q => by rw [if_pos (em.mpr q)] at n; exact absurd n (by decide)
      exact t_198_at hQ m (g + 1) mi (by omega) (by omega) hG (by rw [gl, if_neg (fun q => hf q.2)]; exact hL)
    · have hf : mGoes m0 g := Decidable.byContradiction fun q => n (by rw [if_neg (fun r => q (em.mp r))])
      obtain ⟨g1, rfl⟩ : ∃ g1, g = g1 + 1 := ⟨g - 1, by omega⟩
      have hlen := gl_len (mGoes m0) g1
      have eg : gl (mGoes m0) (g1 + 1 + 1) = gl (mGoes m0) (g1 + 1) ++ [g1 + 1] := by rw [gl, if_pos ⟨by omega, hf⟩]
      rw [hL.1, n_cl (by omega), n_suc]
      refine ⟨n_zin (by omega) (by omega), ?_⟩
      refine t_198_at hQ m (g1 + 1 + 1) _ (by omega) (by omega) (fun c k hc hk => ?_) ?_
      · rw [show zu (zu mi 25 (gl (mGoes m0) (g1 + 1)).length (Int32.ofNat (g1 + 1))) 0 40 (Int32.ofNat ((gl (mGoes m0) (g1 + 1)).length + 1)) c k = zu mi 25 (gl (mGoes m0) (g1 + 1)).length (Int32.ofNat (g1 + 1)) c k from zu_ne hk, zu_nc hc]
        exact hG c k hc hk
      · rw [eg]
        refine ⟨by rw [zu_eq, List.length_append]; rfl, fun i hi => ?_⟩
        rw [zu_nc (by decide)]
        rw [List.length_append] at hi
        simp only [List.length_cons, List.length_nil] at hi
        by_cases hh : i = (gl (mGoes m0) (g1 + 1)).length
        · subst hh
          rw [zu_eq]
          simp [List.getD_eq_getElem?_getD]
        · rw [zu_nk hh, hL.2 i (by omega)]
          simp only [List.getD_eq_getElem?_getD]
          rw [List.getElem?_append_left (by omega)]
theorem t_198 {K : zI → zJ → Prop} {mi : zI} (hi : iH mi) (hp : iP mi) (h : ∀ mi', mG mi mi' → mL mi' (gl (mGoes mi) 32) → K mi' ml) : TV (d + 5) 198 [.ref 0] zMS zMR mi ml K := by
  have hs : mS mi (zu mi 0 40 0) := mS.rfl.put0 (by decide)
  refine TV_of (B_198 (t_183 (iH_s hs hi) (iP_s hs hp) ?_))
  rw [mKnown_s hs]
  refine t_198_at (d := d + 2) (m0 := mi) h 31 1 _ rfl (by decide) (fun c k hc hk => zu_ne hk) ?_
  exact ⟨rfl, fun i hi => absurd hi (by rw [show gl (mGoes mi) 1 = [] from by rw [gl, if_neg (fun q => absurd q.1 (by decide))]; rfl]; exact Nat.not_lt_zero _)⟩
end MAYS
