/-! The model: what a plan takes; a run. -/
theorem gl_congr {f g : Nat → Prop} [DecidablePred f] [DecidablePred g] : ∀ n, (∀ k, k < n → (f k ↔ g k)) → gl f n = gl g n
  | 0, _ => rfl
  | n + 1, h => by
    rw [gl, gl, gl_congr n (fun k hk => h k (by omega))]
    by_cases q : 1 ≤ n ∧ f n
    · rw [if_pos q, if_pos ⟨q.1, (h n (by omega)).mp q.2⟩]
    · rw [if_neg q, if_neg (fun r => q ⟨r.1, (h n (by omega)).mpr r.2⟩)]
section CONGR
variable {m m' : zI}
theorem mGoes_e (h : mE m m') {g : Nat} (hg : g < 32) : mGoes m' g ↔ mGoes m g := by
  unfold mGoes mMay; rw [(h.2 g hg).1, (h.2 g hg).2, mKnown_s h.s, h.f (k := 1) (by decide), h.f (k := 3) (by decide)]
theorem mList_e (h : mE m m') : gl (mGoes m') 32 = gl (mGoes m) 32 := gl_congr 32 (fun _ hk => mGoes_e h hk)
theorem mAfter_e (h : mT m m') (g : Nat) : mAfter m' g = mAfter m g := by
  unfold mAfter
  have e : sBits (mKnows1 m') 10 = sBits (mKnows1 m) 10 := sBits_congr 10 (fun k _ => by unfold mKnows1; rw [h.at (c := 1) (by decide), h.f (k := 4) (by decide), mLaw_u h.u])
  rw [e, mPe_u h.u]
theorem mNeed_e (h : mT m m') (g : Int32) : mNeed m' g = mNeed m g := by
  unfold mNeed mOther; rw [h.f (k := 3) (by decide), h.f (k := 2) (by decide)]
theorem mRank_e (h : mE m m') (kd : Nat) : mRank m' kd = mRank m kd := by
  funext g
  unfold mRank mAftN mW mBo
  rw [mNeed_e h.1, mAfter_e h.1, h.f (k := 1) (by decide), h.f (k := 3) (by decide), LG_same (fun g hg => (h.2 g hg).1) (fun g hg => (h.2 g hg).2)]
theorem mTk_e (h : mE m m') {p : Nat} (ht : mTl m (3 * p + mCr m % 3) < 32) : mTk m' p = mTk m p := by
  have e1 : mKd m' p = mKd m p := by unfold mKd; rw [h.at (c := 2) (by decide)]
  have e2 : mV m' p = mV m p := by unfold mV; rw [h.at (c := 3) (by decide)]
  have e3 : mCr m' = mCr m := by unfold mCr; rw [h.f (k := 4) (by decide)]
  have e4 : ∀ k, mTl m' k = mTl m k := fun k => by unfold mTl; rw [h.at (c := 4) (by decide)]
  unfold mTk
  rw [mList_e h, mRank_e h, mRank_e h, mRank_e h, e1, e2, e3, e4]
  have eg := mGoes_e h ht
  by_cases q : 1 ≤ mTl m (3 * p + mCr m % 3) ∧ mGoes m (mTl m (3 * p + mCr m % 3))
  · rw [if_pos q, if_pos (show 1 ≤ mTl m (3 * p + mCr m % 3) ∧ mGoes m' (mTl m (3 * p + mCr m % 3)) from ⟨q.1, eg.mpr q.2⟩)]
  · rw [if_neg q, if_neg (show ¬ (1 ≤ mTl m (3 * p + mCr m % 3) ∧ mGoes m' (mTl m (3 * p + mCr m % 3))) from fun r => q ⟨r.1, eg.mp r.2⟩)]
end CONGR
theorem getD_mem {l : List Nat} {i : Nat} (h : i < l.length) : l.getD i 0 ∈ l := by
  rw [List.getD_eq_getElem?_getD, List.getElem?_eq_getElem h]; exact List.getElem_mem _
theorem mTk_mem {m : zI} {p : Nat} (ht : mTl m (3 * p + mCr m % 3) < 32) (hn : gl (mGoes m) 32 ≠ []) : mTk m p ∈ gl (mGoes m) 32 := by
  have h1 : ∀ g, g ∈ gl (mGoes m) 32 → 1 ≤ g := fun g q => ((gl_mem _ g 32).mp q).2.1
  have h32 : ∀ g, g ∈ gl (mGoes m) 32 → g < 32 := fun g q => ((gl_mem _ g 32).mp q).1
  have hpos : 0 < (gl (mGoes m) 32).length := List.length_pos_iff.mpr hn
  unfold mTk
  rw [if_neg hn]
  split
  · exact pk_mem _ _ hn h1
  split
  · exact pk_mem _ _ hn h1
  split
  · exact getD_mem (Nat.mod_lt _ hpos)
  split
  · exact pk_mem _ _ hn h1
  split
  · split
    · rename_i q; exact (gl_mem _ _ 32).mpr ⟨ht, q.1, q.2⟩
    · exact pk_mem _ _ hn h1
  split
  · exact (sSpar_mem.mp (getD_mem (Nat.mod_lt _ (sSpar_pos hn h32)))).1
  · exact getD_mem hpos
theorem mTk_0 {m : zI} {p : Nat} (ht : mTl m (3 * p + mCr m % 3) < 32) : mTk m p = 0 ↔ gl (mGoes m) 32 = [] := by
  constructor
  · intro e
    refine Decidable.byContradiction fun q => ?_
    have := ((gl_mem _ _ 32).mp (mTk_mem ht q)).2.1
    omega
  · intro e; unfold mTk; rw [if_pos e]
/-- an answer that is a group, or none -/
def aNone (g : Nat) : Int32 := if g = 0 then -5 else Int32.ofNat g
theorem mGoes_lt {m : zI} (hC : iC m) {g : Nat} (hg : g < 32) (h : mGoes m g) : g < 2 ^ mPe m := hC.2 g hg h.1
theorem iPl_t {n : Nat} {m : zI} {tk : Nat → List Nat} (hA : iA n m tk) {p : Nat} (hp : p < 10) : 3 * p + mCr m % 3 < 30 ∧ mTl m (3 * p + mCr m % 3) < 32 := by
  have h : 3 * p + mCr m % 3 < 30 := by omega
  exact ⟨h, (hA.2.2.2.2.2.1.2.2 _ h).2⟩
theorem n_3p (p c : Nat) (hc : c < 2147483648) : (3 : Int32) * Int32.ofNat p + Int32.ofNat c % 3 = Int32.ofNat (3 * p + c % 3) := by
  show Int32.ofNat 3 * Int32.ofNat p + Int32.ofNat c % Int32.ofNat 3 = _
  rw [← Int32.ofNat_mul, n_mod hc (by decide), n_add]
section TAKES
variable {d : Nat} {ml : zJ}
theorem t_211 {K : Int32 → zI → zJ → Prop} {tk : Nat → List Nat} {n p : Nat} {mi : zI} (hn : n ≤ 100000) (hA : iA n mi tk) (hL : iL mi tk) (hp : p < 10) (hT : mKd mi p = 4 → iTab mi) (h : ∀ mi', mG mi mi' → K (aNone (mTk mi p)) mi' ml) : TI (d + 6) 211 [.ref 0, .int (Int32.ofNat p)] zMS zMR mi ml K := by
  refine TI_of (B_211 _ (t_198 hA.1 hA.2.1 (fun mi1 hG hl => ?_)))
  have hh := h mi1 hG
  have hE := hG.e
  have hA1 := iA_e hE hA
  have hL1 := iL_e hE hL
  obtain ⟨a1, a2, a3, a4, a5, a6, a7⟩ := hA1
  have hC1 := iL_c a2 hL1
  obtain ⟨c1, c2⟩ := hA.2.2.2.2.2.2
  obtain ⟨⟨k1, k2⟩, k3, k4⟩ := hA.2.2.2.2.2.1.2.1 p hp
  obtain ⟨t0, t2⟩ := iPl_t hA hp
  obtain ⟨t1, -⟩ := hA.2.2.2.2.2.1.2.2 _ t0
  have e2 : mi1 2 p = Int32.ofNat (mKd mi p) := by rw [hE.at (by decide)]; exact k1
  have e3 : mi1 3 p = Int32.ofNat (mV mi p) := by rw [hE.at (by decide)]; exact k3
  have e4 : mi1 0 4 = Int32.ofNat (mCr mi) := by rw [hE.f (by decide)]; exact c1
  have e5 : mi1 4 (3 * p + mCr mi % 3) = Int32.ofNat (mTl mi (3 * p + mCr mi % 3)) := by rw [hE.at (by decide)]; exact t1
  have hlen : (gl (mGoes mi) 32).length ≤ 31 := gl_len (mGoes mi) 31
  have h32 : ∀ g, g ∈ gl (mGoes mi) 32 → g < 32 := fun g q => ((gl_mem _ g 32).mp q).1
  have hmem : ∀ g, g ∈ gl (mGoes mi) 32 → 1 ≤ g ∧ g < 2 ^ mPe mi1 ∧ mi1 23 g = gPairs g := fun g q => by
    obtain ⟨x1, x2, x3⟩ := (gl_mem _ g 32).mp q
    exact ⟨x2, mGoes_lt hC1 x1 ((mGoes_e hE x1).mpr x3), (hL1 g x1).1⟩
  have best : ∀ kd : Nat, kd = 1 ∨ kd = 2 ∨ kd = 4 → (kd = 4 → iTab mi) → gl (mGoes mi) 32 ≠ [] → mTk mi p = pk (mRank mi kd) (gl (mGoes mi) 32) → TI (d + 5) 212 [.ref 0, .int (Int32.ofNat kd)] zMS zMR mi1 ml (fun v m l => qI K (some (.int v)) m l) := by
    intro kd hk h4 hne e
    refine t_212 hk a1 a2 a4 a5 hlen (List.length_pos_iff.mpr hne) hl hmem (fun q => iTab_e hE (fun k => hG 26 k (by decide) (fun q => absurd q.1 (by decide))) (h4 q)) ?_
    rw [mRank_e hE, ← e]
    unfold aNone at hh
    rw [if_neg (fun q => hne ((mTk_0 t2).mp q))] at hh
    exact hh
  by_cases hne : gl (mGoes mi) 32 = []
  · have e0 : mi1 0 40 = 0 := by rw [hl.1, hne]; rfl
    refine ⟨fun q => absurd e0 q, fun _ => ?_⟩
    rw [aNone, if_pos ((mTk_0 t2).mpr hne)] at hh
    exact hh
  have hpos : 0 < (gl (mGoes mi) 32).length := List.length_pos_iff.mpr hne
  have hn0 : ¬ mTk mi p = 0 := fun q => hne ((mTk_0 t2).mp q)
  rw [aNone, if_neg hn0] at hh
  have e40 : ¬ mi1 0 40 = 0 := by
    rw [hl.1]; intro q
    have := (n_eq (b := 0) (by omega) (by omega)).mp q; omega
  have hz10 : zin (Int32.ofNat p) 10 = true := n_zin hp (by omega)
  refine ⟨fun _ => ⟨by decide, ?_⟩, fun q => absurd e40 q⟩
  rw [e4, n_3p _ _ (by omega), n_cl (show p < 2147483648 by omega), n_cl (show 3 * p + mCr mi % 3 < 2147483648 by omega), e2, e3, e5]
  have kd : ∀ j : Nat, j < 10 → (Int32.ofNat (mKd mi p) = Int32.ofNat j ↔ mKd mi p = j) := fun j hj => n_eq (by omega) (by omega)
  refine ⟨n_zin t0 (by omega), hz10, fun q1 => best 1 (by decide) (fun q => absurd q (by decide)) hne ?_, fun q1 => ⟨fun q2 => best 2 (by decide) (fun q => absurd q (by decide)) hne ?_, fun q2 => ⟨fun q3 => ⟨hz10, e40, ?_⟩, fun q3 => ⟨fun q4 => best 4 (by decide) (fun _ => hT ((kd 4 (by decide)).mp q4)) hne ?_, fun q4 => ⟨fun q5 => ⟨fun q => best 2 (by decide) (fun q => absurd q (by decide)) hne ?_, fun q => t_194 a1 a2 t2 ⟨fun r => best 2 (by decide) (fun q => absurd q (by decide)) hne ?_, fun r => ?_⟩⟩, fun q5 => ⟨fun q6 => ⟨hz10, ?_⟩, fun q6 => ⟨by decide, ?_⟩⟩⟩⟩⟩⟩⟩
  · unfold mTk; rw [if_neg hne, if_pos ((kd 1 (by decide)).mp q1)]
  · have q2 := (kd 2 (by decide)).mp q2
    unfold mTk; rw [if_neg hne, if_neg (by omega), if_pos q2]
  · have q3 := (kd 3 (by decide)).mp q3
    have e : mTk mi p = (gl (mGoes mi) 32).getD ((mV mi p + mCr mi) % (gl (mGoes mi) 32).length) 0 := by
      unfold mTk; rw [if_neg hne, if_neg (by omega), if_neg (by omega), if_pos q3]
    have hm := Nat.mod_lt (mV mi p + mCr mi) hpos
    rw [hl.1, n_add, n_mod (by omega) (by omega), n_cl (by omega), hl.2 _ hm]
    refine ⟨n_zin (by omega) (by omega), ?_⟩
    rw [← e]; exact hh
  · have q4 := (kd 4 (by decide)).mp q4
    unfold mTk; rw [if_neg hne, if_neg (by omega), if_neg (by omega), if_neg (by omega), if_pos q4]
  · have q5 := (kd 5 (by decide)).mp q5
    have q : mTl mi (3 * p + mCr mi % 3) ≤ 0 := (n_le (b := 0) (by omega) (by omega)).mp q
    unfold mTk; rw [if_neg hne, if_neg (by omega), if_neg (by omega), if_neg (by omega), if_neg (by omega), if_pos q5, if_neg (by omega)]
  · have q5 := (kd 5 (by decide)).mp q5
    have hng : ¬ mGoes mi (mTl mi (3 * p + mCr mi % 3)) := fun x => by rw [if_pos ((mGoes_e hE t2).mpr x)] at r; exact absurd r (by decide)
    unfold mTk; rw [if_neg hne, if_neg (by omega), if_neg (by omega), if_neg (by omega), if_neg (by omega), if_pos q5, if_neg (fun x => hng x.2)]
  · have q5 := (kd 5 (by decide)).mp q5
    have q : ¬ mTl mi (3 * p + mCr mi % 3) ≤ 0 := fun x => q ((n_le (b := 0) (by omega) (by omega)).mpr x)
    have hng : mGoes mi (mTl mi (3 * p + mCr mi % 3)) := (mGoes_e hE t2).mp (Decidable.byContradiction fun x => r (by rw [if_neg x]))
    have e : mTk mi p = mTl mi (3 * p + mCr mi % 3) := by
      unfold mTk; rw [if_neg hne, if_neg (by omega), if_neg (by omega), if_neg (by omega), if_neg (by omega), if_pos q5, if_pos ⟨by omega, hng⟩]
    rw [← e]; exact hh
  · have q6 := (kd 6 (by decide)).mp q6
    have e : mTk mi p = (sSpar (gl (mGoes mi) 32)).getD ((mV mi p + mCr mi) % (sSpar (gl (mGoes mi) 32)).length) 0 := by
      unfold mTk; rw [if_neg hne, if_neg (by omega), if_neg (by omega), if_neg (by omega), if_neg (by omega), if_neg (by omega), if_pos q6]
    have ec : mCr mi1 = mCr mi := by unfold mCr; rw [hE.f (k := 4) (by decide)]
    refine t_216 (d := d + 3) k4 (l := gl (mGoes mi) 32) ⟨by rw [ec]; exact e4, by rw [ec]; omega⟩ hlen hne hl h32 ?_
    rw [ec, ← e]; exact hh
  · have h1 : ¬ mKd mi p = 1 := fun x => q1 ((kd 1 (by decide)).mpr x)
    have h2 : ¬ mKd mi p = 2 := fun x => q2 ((kd 2 (by decide)).mpr x)
    have h3 : ¬ mKd mi p = 3 := fun x => q3 ((kd 3 (by decide)).mpr x)
    have h4 : ¬ mKd mi p = 4 := fun x => q4 ((kd 4 (by decide)).mpr x)
    have h5 : ¬ mKd mi p = 5 := fun x => q5 ((kd 5 (by decide)).mpr x)
    have h6 : ¬ mKd mi p = 6 := fun x => q6 ((kd 6 (by decide)).mpr x)
    have e : mTk mi p = (gl (mGoes mi) 32).getD 0 0 := by
      unfold mTk; rw [if_neg hne, if_neg h1, if_neg h2, if_neg h3, if_neg h4, if_neg h5, if_neg h6]
    rw [hl.2 0 hpos, ← e]; exact hh
/-- readies -/
theorem t_210 {K : zI → zJ → Prop} {tk : Nat → List Nat} {n p : Nat} {mi : zI} (hA : iA n mi tk) (hp : p < 10) (h : ∀ mi', mT mi mi' → iL mi' tk → (mKd mi p = 4 → iTab mi') → (∀ k, mi' 27 k = mi 27 k) → K mi' ml) : TV (d + 5) 210 [.ref 0, .int (Int32.ofNat p)] zMS zMR mi ml K := by
  obtain ⟨⟨k1, k2⟩, -, -⟩ := hA.2.2.2.2.2.1.2.1 p hp
  refine TV_of (B_210 _ (t_191 hA.1 hA.2.1 hA.2.2.1 (fun mi1 hG => ?_)))
  have hT1 : mT mi mi1 := hG.1.t (by decide)
  have h27 : ∀ k, mi1 27 k = mi 27 k := fun k => hG.1 27 k (by decide)
  have e2 : mi1 2 p = Int32.ofNat (mKd mi p) := by rw [hT1.at (by decide)]; exact k1
  rw [n_cl (by omega), e2]
  refine ⟨n_zin hp (by omega), fun q => ?_, fun q => ?_⟩
  · exact h mi1 hT1 (iL_of hG) (fun e => absurd (by rw [e]; rfl) q) h27
  · have hp1 := iP_u hT1.u hA.2.1
    refine t_202 hp1 (iC_of hA.2.1 hG) (fun mi2 hA2 hr => ?_)
    have hu2 : mU mi1 mi2 := ⟨hA2 0 13 (by decide), hA2 0 0 (by decide), fun c k _ _ => hA2 c k (by omega)⟩
    refine h mi2 (hT1.trans (hA2.t (by decide))) (iL_u hu2 (fun _ _ => hA2 23 _ (by decide)) (fun _ _ => hA2 24 _ (by decide)) (iL_of hG)) (fun _ => ?_) (fun k => by rw [hA2 27 k (by decide)]; exact h27 k)
    intro k w a hk hw ha
    rw [mPe_u hu2] at hk hw
    rw [LG_same (fun _ _ => hA2 23 _ (by decide)) (fun _ _ => hA2 24 _ (by decide))]
    exact hr k w a hk hw ha
end TAKES
