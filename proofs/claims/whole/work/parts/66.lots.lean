/-! The model: lots. -/
def LOTS : Nat := 72201776446800
theorem lots_dvd : ∀ c : Nat, c < 32 → 1 ≤ c → c ∣ LOTS := by
  have : ∀ c : Nat, c < 32 → 1 ≤ c → LOTS % c = 0 := by decide +kernel
  exact fun c h h1 => Nat.dvd_of_mod_eq_zero (this c h h1)
def mCnt (m : zI) : Nat := (gl (mGoes m) 32).length
theorem mCnt_le (m : zI) : mCnt m ≤ 31 := gl_len (mGoes m) 31
def mSat (m : zI) : Nat := (sOnes (((m 0 1 ^^^ m 0 2) ^^^ -1) &&& (Int32.ofNat (2 ^ mPe m) - 1)) 10).toNatClampNeg
theorem mSat_of {m : zI} (hp : iP m) : sOnes (((m 0 1 ^^^ m 0 2) ^^^ -1) &&& (Int32.ofNat (2 ^ mPe m) - 1)) 10 = Int32.ofNat (mSat m) ∧ mSat m ≤ 5 := by
  obtain ⟨p1, p2, p3, p4⟩ := pow_tri m hp
  obtain ⟨w, h1, h2⟩ := n_and_lt ((m 0 1 ^^^ m 0 2) ^^^ -1) p4 (by omega)
  obtain ⟨o1, o2⟩ := oN_ok w (by omega)
  have e : mSat m = oN w := by unfold mSat; rw [h2]; rfl
  rw [h2, o1, e]; exact ⟨rfl, o2⟩
/-- the sum of what the groups that may go come to -/
def lS (m : zI) (F : Nat → Nat) (g : Nat) : Nat := ((gl (mGoes m) g).map F).sum
theorem lS_suc (m : zI) (F : Nat → Nat) (g : Nat) : lS m F (g + 1) = if 1 ≤ g ∧ mGoes m g then lS m F g + F g else lS m F g := by
  unfold lS
  rw [gl]
  split
  · rw [List.map_append, List.sum_append]; simp
  · rfl
theorem lS_1 (m : zI) (F : Nat → Nat) : lS m F 1 = 0 := by
  unfold lS; rw [gl, if_neg (fun q => absurd q.1 (by decide)), gl]; rfl
theorem sum_le {F : Nat → Nat} {B : Nat} : ∀ (l : List Nat), (∀ g, g ∈ l → F g ≤ B) → (l.map F).sum ≤ l.length * B
  | [], _ => by simp
  | g :: l, h => by
    have h1 := sum_le l (fun x hx => h x (List.mem_cons_of_mem _ hx))
    have h2 := h g (List.mem_cons_self ..)
    rw [List.map_cons, List.sum_cons, List.length_cons, Nat.succ_mul]
    omega
theorem gl_le (f : Nat → Prop) [DecidablePred f] : ∀ n, (gl f n).length ≤ n
  | 0 => Nat.le_refl _
  | n + 1 => by
    have := gl_le f n
    rw [gl]
    split
    · rw [List.length_append]; simp only [List.length_cons, List.length_nil]; omega
    · omega
theorem lS_le {m : zI} {F : Nat → Nat} {B g : Nat} (hg : g ≤ 32) (h : ∀ x, x < g → mGoes m x → F x ≤ B) : lS m F g ≤ 31 * B := by
  have h1 := sum_le (F := F) (B := B) (gl (mGoes m) g) (fun x hx => by
    obtain ⟨a, b, c⟩ := (gl_mem _ x g).mp hx
    exact h x a c)
  have h2 : (gl (mGoes m) g).length ≤ 31 := by
    cases g with
    | zero => rw [gl]; simp
    | succ g => have := gl_len (mGoes m) g; omega
  exact Nat.le_trans h1 (Nat.mul_le_mul_right B h2)
/-- the mean of what n crossings by lot come to, times LOTS -/
def lotAv (wa : Bool) : Nat → zI → Nat
  | 0, m => if wa then LOTS else LOTS * mSat m
  | n + 1, m => if mCnt m = 0 then (if wa then 0 else LOTS * mSat m) else if wa = true ∧ n = 0 then LOTS else ((gl (mGoes m) 32).map (fun g => lotAv wa n (mGo m g))).sum / mCnt m
/-- above and below the line -/
def lotV (wa : Bool) (n : Nat) (m : zI) : Nat := if n = 0 ∨ mCnt m = 0 then (if wa then (if n = 0 then LOTS else 0) else LOTS * mSat m) else lS m (fun g => lotAv wa (n - 1) (mGo m g)) 32
def lotD (n : Nat) (m : zI) : Nat := LOTS * max 1 (if n = 0 then 0 else mCnt m)
def aLikely (m : zI) (tk : Nat → List Nat) (a b : Int32) : Int64 := if ¬ ((1 ≤ a ∧ a ≤ 3) ∧ 0 ≤ b ∧ b ≤ 1) then -9223372036854775808 else aFrac (lotV true a.toNatClampNeg (mLook m tk)) (lotD a.toNatClampNeg (mLook m tk)) b
def aWanted (m : zI) (tk : Nat → List Nat) (a b : Int32) : Int64 := if ¬ ((0 ≤ a ∧ a ≤ 2) ∧ 0 ≤ b ∧ b ≤ 1) then -9223372036854775808 else aFrac (lotV false a.toNatClampNeg (mLook m tk)) (lotD a.toNatClampNeg (mLook m tk)) b
theorem mSat_go {n g : Nat} {m : zI} {tk : Nat → List Nat} (hA : iA n m tk) : mSat (mGo m g) ≤ 5 := (mSat_of (iP_u (mGo_u m g) hA.2.1)).2
theorem lotAv_le {tk : Nat → List Nat} (wa : Bool) : ∀ (n c : Nat) (m : zI), c + n ≤ 100000 → iA c m tk → iL m tk → lotAv wa n m ≤ 5 * LOTS
  | 0, c, m, hc, hA, hL => by
    rw [lotAv]
    have := (mSat_of hA.2.1).2
    split
    · omega
    · rw [Nat.mul_comm]; exact Nat.mul_le_mul_right _ this
  | n + 1, c, m, hc, hA, hL => by
    rw [lotAv]
    have hs := (mSat_of hA.2.1).2
    split
    · split
      · exact Nat.zero_le _
      · rw [Nat.mul_comm]; exact Nat.mul_le_mul_right _ hs
    split
    · omega
    · rename_i h0 _
      refine Nat.div_le_of_le_mul (Nat.le_trans (sum_le (B := 5 * LOTS) _ (fun g hg => ?_)) (Nat.le_refl _))
      obtain ⟨g1, g2, g3⟩ := (gl_mem _ g 32).mp hg
      exact lotAv_le wa n (c + 1) (mGo m g) (by omega) (iA_go (by omega) (mGoes_lt (iL_c hA.2.1 hL) g1 g3) hA) (iL_go g hL)
section LOTS
variable {d : Nat}
/-- a group is tried -/
theorem t_try {NEXT REST : zI → zJ → Prop} {tk : Nat → List Nat} {n s g : Nat} {m mi : zI} {ml : zJ} (hs : s < 3) (hA : iA n m tk) (hL : iL m tk) (hE : mE m mi) (hg : g < 32) (h0 : ¬ mGoes m g → NEXT mi ml)
    (h1 : mGoes m g → ∀ mi9, mE (mGo m g) mi9 → mSlot s m mi9 → (∀ k, ¬ (14 * s ≤ k ∧ k < 14 * s + 13) → mi9 27 k = mi 27 k) → REST mi9 ml) :
    TI (d + 5) 194 [.ref 0, .int (Int32.ofNat g)] zMS zMR mi ml (fun v7 mi7 ml7 => ((v7 = 0 → NEXT mi7 ml7) ∧ (¬ v7 = 0 → TV (d + 5) 219 [.ref 0, .int (Int32.ofNat s)] zMS zMR mi7 ml7 (fun mi8 ml8 => TI (d + 5) 200 [.ref 0, .int (Int32.ofNat g)] zMS zMR mi8 ml8 (fun v9 mi9 ml9 => REST mi9 ml9))))) := by
  have hA1 := iA_e hE hA
  have hL1 := iL_e hE hL
  refine t_194 hA1.1 hA1.2.1 hg ⟨fun x => h0 (fun y => by rw [if_pos ((mGoes_e hE hg).mpr y)] at x; exact absurd x (by decide)), fun x => ?_⟩
  have hgo : mGoes m g := (mGoes_e hE hg).mp (Decidable.byContradiction fun y => x (by rw [if_neg y]))
  refine t_219 (d := d + 4) (by omega) (fun m8 h8 hs8 => ?_)
  have hT8 : mT mi m8 := fun c k a b e => h8 c k (fun q => e ⟨q.1, by omega⟩)
  have hE8 : mE mi m8 := ⟨hT8, fun g _ => ⟨h8 23 g (by omega), h8 24 g (by omega)⟩⟩
  have hE' := hE.trans hE8
  have hA8 := iA_e hE' hA
  refine t_200 (d := d + 2) (tk := tk) hg hA8.1 hA8.2.2.1 (iL_e hE' hL _ hg).1 (fun m9 h9 => h1 hgo m9 ((mGo_e hE' g).trans h9.e) ?_ (fun k hk => ?_))
  · obtain ⟨a, b, c, e⟩ := hs8
    have e27 : ∀ k, m9 27 k = m8 27 k := fun k => by rw [h9 27 k (by decide), mGo_c _ _ _ _ (by decide)]
    exact ⟨by rw [e27, a, hE.f (by decide)], by rw [e27, b, hE.f (by decide)], by rw [e27, c, hE.f (by decide)], fun k hk => by rw [e27, e k hk, hE.at (by decide)]⟩
  · rw [h9 27 k (by decide), mGo_c _ _ _ _ (by decide), h8 27 k (by omega)]
theorem t_layb {K : zI → zJ → Prop} {s g : Nat} {m mi : zI} {ml : zJ} (hs : s < 4) (hE : mE (mGo m g) mi) (hS : mSlot s m mi) (h : ∀ mi', mE m mi' → (∀ k, mi' 27 k = mi 27 k) → K mi' ml) : TV (d + 1) 221 [.ref 0, .int (Int32.ofNat s)] zMS zMR mi ml K := by
  refine t_221 hs (fun m3 h3 hs3 => h m3 ⟨mBack ((mGo_q m g).trans hE.1.q) hS hs3 h3, fun x hx => ?_⟩ (fun k => h3 27 k (by omega) (by omega)))
  have := hE.2 x hx
  rw [mGo_c _ _ _ _ (by decide), mGo_c _ _ _ _ (by decide)] at this
  rw [h3 23 x (by omega) (by omega), h3 24 x (by omega) (by omega)]
  exact this
theorem mCnt_e {m m' : zI} (h : mE m m') : mCnt m' = mCnt m := by unfold mCnt; rw [mList_e h]
theorem mCnt_pos {m : zI} {g : Nat} (hg : g < 32) (h1 : 1 ≤ g) (h : mGoes m g) : 1 ≤ mCnt m := List.length_pos_of_mem ((gl_mem _ g 32).mpr ⟨hg, h1, h⟩)
theorem mSat_e {m m' : zI} (h : mE m m') : mSat m' = mSat m := by unfold mSat; rw [h.f (by decide), h.f (by decide), mPe_u h.u]
theorem t_236 {K : Int32 → zI → zJ → Prop} {mi : zI} {ml : zJ} (hp : iP mi) (h : K (Int32.ofNat (mSat mi)) mi ml) : TI (d + 2) 236 [.ref 0] zMS zMR mi ml K := by
  obtain ⟨q1, q2⟩ := iP_of hp
  refine TI_of (B_236 (t_184 _ ?_))
  rw [q1, n_pow _ (by omega), (mSat_of hp).1]
  exact h
theorem lots_num {c y : Nat} (hc : 1 ≤ c) (hy : 1 ≤ y) (hy2 : y < 32) : c * y ∣ LOTS * c ∧ LOTS * c / (c * y) = LOTS / y := by
  obtain ⟨q, hq⟩ := lots_dvd y hy2 hy
  rw [hq]
  refine ⟨⟨q, by rw [Nat.mul_comm (y * q) c, Nat.mul_assoc]⟩, ?_⟩
  rw [Nat.mul_div_cancel_left _ (by omega), Nat.mul_comm (y * q) c, ← Nat.mul_assoc, Nat.mul_div_cancel_left _ (Nat.mul_pos hc hy)]
/-- the second of two lots -/
theorem t_231_19 {Q : zQ} {tk : Nat → List Nat} {n first V : Nat} {m1 : zI} {s0 : Nat → Int32} {ml0 : zJ} (hf : 1 ≤ first ∧ first < 32) (hV : V ≤ 200 * LOTS) (hn : n ≤ 90000) (hA : iA n m1 tk) (hL : iL m1 tk)
    (hQ : ∀ mi' ml', mE m1 mi' → (∀ k, k < 14 → mi' 27 k = s0 k) → jS ml0 ml' → iFr (V + lS m1 (fun g => if mCnt (mGo m1 g) = 0 then 0 else 1) 32 * (LOTS / mCnt m1)) (LOTS * first) ml' → Q none mi' ml') :
    ∀ (j g : Nat) (mi : zI) (ml : zJ), g + j = 32 → 1 ≤ g → mE m1 mi → (∀ k, k < 14 → mi 27 k = s0 k) → jS ml0 ml → iFr (V + lS m1 (fun g => if mCnt (mGo m1 g) = 0 then 0 else 1) g * (LOTS / mCnt m1)) (LOTS * first) ml →
      Wf (d + 6) 231 19 [.ref 0, .int 3, .int (Int32.ofNat first), .int (Int32.ofNat (mCnt m1)), .int (Int32.ofNat g)] [] zMS zMR mi ml Q
  | 0, g, mi, ml, e, h1, hE, h27, hj, hF => by
    obtain rfl : g = 32 := by omega
    exact B_231_19 _ _ _ _ ⟨fun _ => hQ mi ml hE h27 hj hF, fun x => absurd (show (32 : Int32) ≤ Int32.ofNat 32 by decide) x⟩
  | j + 1, g, mi, ml, e, h1, hE, h27, hj, hF => by
    have hc31 := mCnt_le m1
    have nxt : ∀ (mi' : zI) (ml' : zJ), mE m1 mi' → (∀ k, k < 14 → mi' 27 k = s0 k) → jS ml0 ml' → iFr (V + lS m1 (fun g => if mCnt (mGo m1 g) = 0 then 0 else 1) (g + 1) * (LOTS / mCnt m1)) (LOTS * first) ml' → Wf (d + 6) 231 19 [.ref 0, .int 3, .int (Int32.ofNat first), .int (Int32.ofNat (mCnt m1)), .int (Int32.ofNat (g + 1))] [] zMS zMR mi' ml' Q :=
      fun mi' ml' a b c e' => t_231_19 hf hV hn hA hL hQ j (g + 1) mi' ml' (by omega) (by omega) a b c e'
    refine B_231_19 _ _ _ _ ⟨fun x => absurd ((n_le (a := 32) (by omega) (by omega)).mp x) (by omega), fun _ => ⟨fun x => absurd rfl x, fun _ => ?_⟩⟩
    rw [n_suc]
    refine t_try (s := 1) (by decide) hA hL hE (by omega) (fun hno => nxt mi ml hE h27 hj ?_) (fun hgo mi9 hE9 hS9 h9 => ?_)
    · rw [lS_suc, if_neg (fun q => hno q.2)]; exact hF
    · have hC := iL_c hA.2.1 hL
      have hA9 := iA_e hE9 (iA_go (g := g) (by omega) (mGoes_lt hC (by omega) hgo) hA)
      have hp9 := hA9.2.1
      have hcp := mCnt_pos (by omega) h1 hgo
      obtain ⟨y1, y2⟩ := lots_num hf.1 hcp (by omega)
      have hlS : lS m1 (fun g => if mCnt (mGo m1 g) = 0 then 0 else 1) g ≤ 31 := Nat.le_trans (lS_le (B := 1) (by omega) (fun x _ _ => by split <;> omega)) (by omega)
      have hdl : LOTS / mCnt m1 ≤ LOTS := Nat.div_le_self _ _
      have hprod : lS m1 (fun g => if mCnt (mGo m1 g) = 0 then 0 else 1) g * (LOTS / mCnt m1) ≤ 31 * LOTS := Nat.mul_le_mul hlS hdl
      have eD : LOTS * first ≤ LOTS * 31 := Nat.mul_le_mul_left _ (by omega)
      have eDp : 0 < LOTS * first := Nat.mul_pos (by decide) (by omega)
      have eL : LOTS = 72201776446800 := rfl
      refine t_198 hA9.1 hp9 (fun mi10 hG10 hL10 => ?_)
      have hE10 := hE9.trans hG10.e
      have e40 : mi10 0 40 = Int32.ofNat (mCnt (mGo m1 g)) := by rw [hL10.1]; exact congrArg Int32.ofNat (mCnt_e hE9)
      have h27' : ∀ k, k < 14 → mi10 27 k = s0 k := fun k hk => by rw [hG10 27 k (by decide) (by omega), h9 k (by omega)]; exact h27 k hk
      have hS10 : mSlot 1 m1 mi10 := by
        have e27 : ∀ k, mi10 27 k = mi9 27 k := fun k => hG10 27 k (by decide) (by omega)
        obtain ⟨a, b, c, e⟩ := hS9
        exact ⟨by rw [e27]; exact a, by rw [e27]; exact b, by rw [e27]; exact c, fun k hk => by rw [e27]; exact e k hk⟩
      have hc31' := mCnt_le (mGo m1 g)
      rw [e40, l_of (by omega), l_of (by omega), l_mul]
      refine ⟨fun x => ?_, fun x => ?_⟩
      · have h0 : mCnt (mGo m1 g) = 0 := by have := (n_le (b := 0) (by omega) (by omega)).mp x; omega
        refine t_232 (d := d + 3) (n := 0) eDp y1 (by omega) (by omega) hF (fun ml' hj' hF' => t_layb (d := d + 4) (by decide) hE10 hS10 (fun mi' hE' h27'' => nxt mi' ml' hE' (fun k hk => by rw [h27'']; exact h27' k hk) (hj.trans hj') ?_))
        rw [lS_suc, if_pos ⟨h1, hgo⟩, if_pos h0]
        rw [Nat.zero_mul] at hF'
        exact hF'
      · have h0 : ¬ mCnt (mGo m1 g) = 0 := fun y => x (by rw [y]; exact Int32.le_refl _)
        refine t_232 (d := d + 3) (n := 1) eDp y1 (by omega) (by omega) hF (fun ml' hj' hF' => t_layb (d := d + 4) (by decide) hE10 hS10 (fun mi' hE' h27'' => nxt mi' ml' hE' (fun k hk => by rw [h27'']; exact h27' k hk) (hj.trans hj') ?_))
        rw [lS_suc, if_pos ⟨h1, hgo⟩, if_neg h0]
        rw [Nat.one_mul, y2] at hF'
        rw [Nat.add_mul, Nat.one_mul, ← Nat.add_assoc]
        exact hF'
theorem lS_mul (m : zI) (F G : Nat → Nat) (c : Nat) (h : ∀ g, F g = c * G g) : ∀ g, lS m F g = c * lS m G g
  | 0 => by unfold lS; rw [gl]; simp
  | g + 1 => by
    rw [lS_suc, lS_suc, lS_mul m F G c h g, h g]
    split
    · rw [Nat.mul_add]
    · rfl
theorem lots_div {c s : Nat} (h1 : 1 ≤ c) (h2 : c < 32) : LOTS * s / c = s * (LOTS / c) := by
  obtain ⟨q, hq⟩ := lots_dvd c h2 h1
  rw [hq, Nat.mul_assoc, Nat.mul_div_cancel_left _ (by omega), Nat.mul_div_cancel_left _ (by omega), Nat.mul_comm]
theorem lotAv_lik (m : zI) : lotAv true 2 m = lS m (fun g => if mCnt (mGo m g) = 0 then 0 else 1) 32 * (LOTS / mCnt m) := by
  rw [lotAv]
  by_cases h : mCnt m = 0
  · rw [if_pos h, if_pos rfl]
    have : gl (mGoes m) 32 = [] := List.length_eq_zero_iff.mp h
    unfold lS; rw [this]; simp
  · rw [if_neg h, if_neg (fun q => absurd q.2 (by decide))]
    have e : ((gl (mGoes m) 32).map (fun g => lotAv true 1 (mGo m g))).sum = lS m (fun g => lotAv true 1 (mGo m g)) 32 := rfl
    rw [e, lS_mul m _ (fun g => if mCnt (mGo m g) = 0 then 0 else 1) LOTS (fun g => by
      rw [lotAv]
      by_cases q : mCnt (mGo m g) = 0
      · rw [if_pos q, if_pos rfl, if_pos q]; rfl
      · rw [if_neg q, if_pos ⟨rfl, rfl⟩, if_neg q, Nat.mul_one])]
    have := mCnt_le m
    exact lots_div (by omega) (by omega)
/-- likelyOn -/
theorem t_231 {K : zI → zJ → Prop} {tk : Nat → List Nat} {n first V a : Nat} {m1 mi : zI} {ml : zJ} (ha : a = 2 ∨ a = 3) (hf : 1 ≤ first ∧ first < 32) (hV : V ≤ 200 * LOTS) (hn : n ≤ 90000) (hA : iA n m1 tk) (hL : iL m1 tk) (hE : mE m1 mi) (hF : iFr V (LOTS * first) ml)
    (h : ∀ mi' ml', mE m1 mi' → (∀ k, k < 14 → mi' 27 k = mi 27 k) → jS ml ml' → iFr (V + lotAv true (a - 1) m1) (LOTS * first) ml' → K mi' ml') : TV (d + 6) 231 [.ref 0, .int (Int32.ofNat a), .int (Int32.ofNat first)] zMS zMR mi ml K := by
  have hA1 := iA_e hE hA
  have hc31 := mCnt_le m1
  have eD : LOTS * first ≤ LOTS * 31 := Nat.mul_le_mul_left _ (by omega)
  have eDp : 0 < LOTS * first := Nat.mul_pos (by decide) (by omega)
  have eL : LOTS = 72201776446800 := rfl
  refine TV_of (B_231 _ _ (t_198 hA1.1 hA1.2.1 (fun mi1 hG hl => ?_)))
  have hE1 := hE.trans hG.e
  have e40 : mi1 0 40 = Int32.ofNat (mCnt m1) := by rw [hl.1]; exact congrArg Int32.ofNat (mCnt_e hE)
  have h27 : ∀ k, k < 14 → mi1 27 k = mi 27 k := fun k _ => hG 27 k (by decide) (by omega)
  rw [e40, l_of (by omega)]
  have y1 : first ∣ LOTS * first := ⟨LOTS, Nat.mul_comm _ _⟩
  have y2 : LOTS * first / first = LOTS := Nat.mul_div_cancel _ (by omega)
  have fin : ∀ ml', jS ml ml' → iFr (V + lotAv true 1 m1) (LOTS * first) ml' → a = 2 → Wf (d + 6) 231 19 [.ref 0, .int (Int32.ofNat a), .int (Int32.ofNat first), .int (Int32.ofNat (mCnt m1)), .int 1] [] zMS zMR mi1 ml' (qV K) := by
    intro ml' hj hF' e
    subst e
    exact B_231_19 _ _ _ _ ⟨fun x => absurd x (by decide), fun _ => ⟨fun _ => h mi1 ml' hE1 h27 hj hF', fun x => absurd (by decide) x⟩⟩
  have eav : lotAv true 1 m1 = if mCnt m1 = 0 then 0 else LOTS := by
    rw [lotAv]
    by_cases q : mCnt m1 = 0
    · rw [if_pos q, if_pos rfl, if_pos q]
    · rw [if_neg q, if_pos ⟨rfl, rfl⟩, if_neg q]
  rcases ha with rfl | rfl
  · refine ⟨fun x => absurd rfl x, fun _ => ⟨fun x => ?_, fun x => ?_⟩⟩
    · have h0 : mCnt m1 = 0 := by have := (n_le (b := 0) (by omega) (by omega)).mp x; omega
      refine t_232 (d := d + 3) (n := 0) eDp y1 (by omega) (by omega) hF (fun ml' hj hF' => fin ml' hj ?_ rfl)
      rw [eav, if_pos h0]; rw [Nat.zero_mul] at hF'; exact hF'
    · have h0 : ¬ mCnt m1 = 0 := fun y => x (by rw [y]; exact Int32.le_refl _)
      refine t_232 (d := d + 3) (n := 1) eDp y1 (by omega) (by omega) hF (fun ml' hj hF' => fin ml' hj ?_ rfl)
      rw [eav, if_neg h0]; rw [Nat.one_mul, y2] at hF'; exact hF'
  · refine ⟨fun _ => ?_, fun x => absurd (by decide) x⟩
    refine t_231_19 (s0 := mi 27) (ml0 := ml) hf hV hn hA hL (fun mi' ml' a b c e => h mi' ml' a b c ?_) 31 1 mi1 ml rfl (by decide) hE1 h27 jS.rfl ?_
    · rw [lotAv_lik]; exact e
    · rw [lS_1, Nat.zero_mul]; exact hF
end LOTS
