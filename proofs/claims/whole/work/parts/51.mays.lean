-- @after: 00.privs 01.names 02.code 03.tabs 04.mach 05.rows 26.rows2 27.wp 28.mem 30.bc0 34.bm0 35.bm1 40.num 41.leaf 42.laws 43.known 44.post 45.holds 46.worth 47.barred 48.looks 49.looks2 50.goes
/-! The model: what lasts, and which groups may go. -/
/-- the fields of the object that are scratch -/
def mScr : List Nat := [30, 31, 33, 34, 40, 43, 47]
/-- the same in all that lasts -/
def mS (mi mi' : zI) : Prop := (∀ k, ¬ k ∈ mScr → mi' 0 k = mi 0 k) ∧ ∀ c k, 1 ≤ c → c < 20 → mi' c k = mi c k
theorem mS.rfl {mi : zI} : mS mi mi := ⟨fun _ _ => Eq.refl _, fun _ _ _ _ => Eq.refl _⟩
theorem mS.trans {a b c : zI} (h1 : mS a b) (h2 : mS b c) : mS a c := ⟨fun k hk => by rw [h2.1 k hk, h1.1 k hk], fun x k p q => by rw [h2.2 x k p q, h1.2 x k p q]⟩
theorem mAs.s {l : List Nat} (hl : hiL l) {a b : zI} (h : mAs l a b) : mS a b := ⟨fun k _ => h 0 k (hl.out (by decide)), fun c k _ hc => h c k (hl.out hc)⟩
theorem mS.put {a b : zI} (h : mS a b) {c k : Nat} {v : Int32} (hc : 20 ≤ c) : mS a (zu b c k v) := ⟨fun q hq => by rw [zu_nc (by omega)]; exact h.1 q hq, fun x q p r => by rw [zu_nc (by omega)]; exact h.2 x q p r⟩
theorem mS.put0 {a b : zI} (h : mS a b) {k : Nat} {v : Int32} (hk : k ∈ mScr) : mS a (zu b 0 k v) := ⟨fun q hq => by rw [zu_nk (fun e => hq (by rw [e]; exact hk))]; exact h.1 q hq, fun x q p r => by rw [zu_nc (by omega)]; exact h.2 x q p r⟩
section LASTS
variable {mi mi' : zI}
theorem mP_s (h : mS mi mi') : mP mi' = mP mi := by unfold mP; rw [h.1 13 (by decide)]
theorem mN_s (h : mS mi mi') : mN mi' = mN mi := by unfold mN; rw [mP_s h, h.1 13 (by decide), h.2 6 _ (by decide) (by decide)]
theorem mPe_s (h : mS mi mi') : mPe mi' = mPe mi := by unfold mPe; rw [h.1 0 (by decide)]
theorem iH_s (h : mS mi mi') (q : iH mi) : iH mi' := by
  rcases q with q | ⟨p, n, hp, hn, h1, h2⟩
  · exact .inl (by rw [h.1 13 (by decide)]; exact q)
  · exact .inr ⟨p, n, hp, hn, by rw [h.1 13 (by decide)]; exact h1, by rw [h.2 6 _ (by decide) (by decide)]; exact h2⟩
theorem iP_s (h : mS mi mi') (q : iP mi) : iP mi' := by
  obtain ⟨p, h1, h2⟩ := q
  exact ⟨p, h1, by rw [h.1 0 (by decide)]; exact h2⟩
theorem mLaw_s (h : mS mi mi') (w : Int32) : mLaw mi' w = mLaw mi w := by
  have : ∀ n0 k, sLaw mi' w n0 k = sLaw mi w n0 k := by
    intro n0 k
    induction k with
    | zero => rfl
    | succ k ih => rw [sLaw, sLaw, ih, mP_s h, h.2 7 _ (by decide) (by decide), h.2 8 _ (by decide) (by decide)]
  unfold mLaw; rw [mN_s h, this]
theorem mLeast_s (h : mS mi mi') : mLeast mi' = mLeast mi := by unfold mLeast; rw [mLaw_s h]
theorem mCodes_s (h : mS mi mi') : ∀ {t : List Nat} {k : Nat}, mCodes mi k t → mCodes mi' k t
  | [], _, _ => trivial
  | _ :: _, k, q => ⟨by rw [h.2 11 k (by decide) (by decide)]; exact q.1, mCodes_s h q.2⟩
theorem iT_s (h : mS mi mi') {tk : Nat → List Nat} (q : iT mi tk) : iT mi' tk := by
  intro k hk hw
  rw [mN_s h] at hk
  rw [mP_s h, h.2 7 _ (by decide) (by decide)] at hw
  rw [mP_s h]
  obtain ⟨a, h1, h2, h3, h4, h5⟩ := q k hk hw
  exact ⟨a, by rw [h.2 9 _ (by decide) (by decide)]; exact h1, by rw [h.2 10 _ (by decide) (by decide)]; exact h2, h3, mCodes_s h h4, h5⟩
theorem sBits_congr {f g : Nat → Prop} [DecidablePred f] [DecidablePred g] : ∀ n, (∀ k, k < n → (f k ↔ g k)) → sBits f n = sBits g n
  | 0, _ => rfl
  | n + 1, h => by
    rw [sBits, sBits, sBits_congr n (fun k hk => h k (by omega))]
    by_cases q : f n
    · rw [if_pos q, if_pos ((h n (by omega)).mp q)]
    · rw [if_neg q, if_neg (fun r => q ((h n (by omega)).mpr r))]
theorem mKnown_s (h : mS mi mi') : mKnown mi' = mKnown mi := by
  unfold mKnown
  rw [mPe_s h]
  refine sBits_congr _ (fun k _ => ?_)
  unfold mKnows
  rw [h.2 1 k (by decide) (by decide), h.1 4 (by decide), mLaw_s h]
end LASTS
