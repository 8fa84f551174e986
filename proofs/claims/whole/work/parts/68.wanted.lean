/-! The model: wanted. -/
theorem lotAv_wan (m : zI) : lotAv false 1 m = (if mCnt m = 0 then LOTS * mSat m else 0) + lS m (fun g => mSat (mGo m g)) 32 * (LOTS / mCnt m) := by
  rw [lotAv]
  by_cases h : mCnt m = 0
  · rw [if_pos h, if_neg (by decide), if_pos h]
    have : gl (mGoes m) 32 = [] := List.length_eq_zero_iff.mp h
    unfold lS; rw [this]; simp
  · rw [if_neg h, if_neg (fun q => absurd q.1 (by decide)), if_neg h, Nat.zero_add]
    have e : ((gl (mGoes m) 32).map (fun g => lotAv false 0 (mGo m g))).sum = lS m (fun g => lotAv false 0 (mGo m g)) 32 := rfl
    rw [e, lS_mul m _ (fun g => mSat (mGo m g)) LOTS (fun g => by rw [lotAv, if_neg (by decide)])]
    have := mCnt_le m
    exact lots_div (by omega) (by omega)
section WANTED
variable {d : Nat}
theorem t_237_19 {Q : zQ} {tk : Nat → List Nat} {n first V : Nat} {m1 : zI} {s0 : Nat → Int32} {ml0 : zJ} (hf : 1 ≤ first ∧ first < 32) (hV : V ≤ 300 * LOTS) (hn : n ≤ 90000) (hA : iA n m1 tk) (hL : iL m1 tk)
    (hQ : ∀ mi' ml', mE m1 mi' → (∀ k, k < 14 → mi' 27 k = s0 k) → jS ml0 ml' → iFr (V + lS m1 (fun g => mSat (mGo m1 g)) 32 * (LOTS / mCnt m1)) (LOTS * first) ml' → Q none mi' ml') :
    ∀ (j g : Nat) (mi : zI) (ml : zJ), g + j = 32 → 1 ≤ g → mE m1 mi → (∀ k, k < 14 → mi 27 k = s0 k) → jS ml0 ml → iFr (V + lS m1 (fun g => mSat (mGo m1 g)) g * (LOTS / mCnt m1)) (LOTS * first) ml →
      Wf (d + 6) 237 19 [.ref 0, .int 2, .int (Int32.ofNat first), .int (Int32.ofNat (mCnt m1)), .int (Int32.ofNat g)] [] zMS zMR mi ml Q
  | 0, g, mi, ml, e, h1, hE, h27, hj, hF => by
    obtain rfl : g = 32 := by omega
    exact B_237_19 _ _ _ _ ⟨fun _ => hQ mi ml hE h27 hj hF, fun x => absurd (show (32 : Int32) ≤ Int32.ofNat 32 by decide) x⟩
  | j + 1, g, mi, ml, e, h1, hE, h27, hj, hF => by
    have hc31 := mCnt_le m1
    have nxt : ∀ (mi' : zI) (ml' : zJ), mE m1 mi' → (∀ k, k < 14 → mi' 27 k = s0 k) → jS ml0 ml' → iFr (V + lS m1 (fun g => mSat (mGo m1 g)) (g + 1) * (LOTS / mCnt m1)) (LOTS * first) ml' → Wf (d + 6) 237 19 [.ref 0, .int 2, .int (Int32.ofNat first), .int (Int32.ofNat (mCnt m1)), .int (Int32.ofNat (g + 1))] [] zMS zMR mi' ml' Q :=
      fun mi' ml' a b c e' => t_237_19 hf hV hn hA hL hQ j (g + 1) mi' ml' (by omega) (by omega) a b c e'
    refine B_237_19 _ _ _ _ ⟨fun x => absurd ((n_le (a := 32) (by omega) (by omega)).mp x) (by omega), fun _ => ⟨fun x => absurd rfl x, fun _ => ?_⟩⟩
    rw [n_suc]
    refine t_try (s := 1) (by decide) hA hL hE (by omega) (fun hno => nxt mi ml hE h27 hj ?_) (fun hgo mi9 hE9 hS9 h9 => ?_)
    · rw [lS_suc, if_neg (fun q => hno q.2)]; exact hF
    · have hC := iL_c hA.2.1 hL
      have hA9 := iA_e hE9 (iA_go (g := g) (by omega) (mGoes_lt hC (by omega) hgo) hA)
      have hp9 := hA9.2.1
      have hcp := mCnt_pos (by omega) h1 hgo
      obtain ⟨y1, y2⟩ := lots_num hf.1 hcp (by omega)
      have hlS : lS m1 (fun g => mSat (mGo m1 g)) g ≤ 155 := Nat.le_trans (lS_le (B := 5) (by omega) (fun x _ _ => mSat_go hA)) (by omega)
      have hdl : LOTS / mCnt m1 ≤ LOTS := Nat.div_le_self _ _
      have hprod : lS m1 (fun g => mSat (mGo m1 g)) g * (LOTS / mCnt m1) ≤ 155 * LOTS := Nat.mul_le_mul hlS hdl
      have eD : LOTS * first ≤ LOTS * 31 := Nat.mul_le_mul_left _ (by omega)
      have eDp : 0 < LOTS * first := Nat.mul_pos (by decide) (by omega)
      have eL : LOTS = 72201776446800 := rfl
      have hs5 := mSat_go (g := g) hA
      have hsD : mSat (mGo m1 g) * (LOTS * first) ≤ 5 * (LOTS * 31) := Nat.mul_le_mul hs5 eD
      have h27' : ∀ k, k < 14 → mi9 27 k = s0 k := fun k hk => by rw [h9 k (by omega)]; exact h27 k hk
      refine t_236 (d := d + 3) hp9 ?_
      rw [mSat_e hE9, l_of (by omega), l_of (by omega), l_of (by omega), l_mul]
      refine t_232 (d := d + 3) eDp y1 (by omega) (by omega) hF (fun ml' hj' hF' => t_layb (d := d + 4) (by decide) hE9 hS9 (fun mi' hE' h27'' => nxt mi' ml' hE' (fun k hk => by rw [h27'']; exact h27' k hk) (hj.trans hj') ?_))
      rw [lS_suc, if_pos ⟨h1, hgo⟩, Nat.add_mul, ← Nat.add_assoc]
      rw [y2] at hF'
      exact hF'
/-- wantedOn -/
theorem t_237 {K : zI → zJ → Prop} {tk : Nat → List Nat} {n first V a : Nat} {m1 mi : zI} {ml : zJ} (ha : a = 1 ∨ a = 2) (hf : 1 ≤ first ∧ first < 32) (hV : V ≤ 200 * LOTS) (hn : n ≤ 90000) (hA : iA n m1 tk) (hL : iL m1 tk) (hE : mE m1 mi) (hF : iFr V (LOTS * first) ml)
    (h : ∀ mi' ml', mE m1 mi' → (∀ k, k < 14 → mi' 27 k = mi 27 k) → jS ml ml' → iFr (V + lotAv false (a - 1) m1) (LOTS * first) ml' → K mi' ml') : TV (d + 6) 237 [.ref 0, .int (Int32.ofNat a), .int (Int32.ofNat first)] zMS zMR mi ml K := by
  have hA1 := iA_e hE hA
  have hc31 := mCnt_le m1
  have eD : LOTS * first ≤ LOTS * 31 := Nat.mul_le_mul_left _ (by omega)
  have eDp : 0 < LOTS * first := Nat.mul_pos (by decide) (by omega)
  have eL : LOTS = 72201776446800 := rfl
  have hs5 := (mSat_of hA.2.1).2
  have hsD : mSat m1 * (LOTS * first) ≤ 5 * (LOTS * 31) := Nat.mul_le_mul hs5 eD
  refine TV_of (B_237 _ _ (t_198 hA1.1 hA1.2.1 (fun mi1 hG hl => ?_)))
  have hE1 := hE.trans hG.e
  have hp1 := (iA_e hE1 hA).2.1
  have e40 : mi1 0 40 = Int32.ofNat (mCnt m1) := by rw [hl.1]; exact congrArg Int32.ofNat (mCnt_e hE)
  have h27 : ∀ k, k < 14 → mi1 27 k = mi 27 k := fun k _ => hG 27 k (by decide) (by omega)
  rw [e40, l_of (by omega)]
  have y1 : first ∣ LOTS * first := ⟨LOTS, Nat.mul_comm _ _⟩
  have y2 : LOTS * first / first = LOTS := Nat.mul_div_cancel _ (by omega)
  have add : ∀ (K' : zI → zJ → Prop), (∀ ml', jS ml ml' → iFr (V + LOTS * mSat m1) (LOTS * first) ml' → K' mi1 ml') → TI (d + 5) 236 [.ref 0] zMS zMR mi1 ml (fun v2 mi2 ml2 => TV (d + 5) 232 [.ref 0, .long (Int32.toInt64 v2), .long (Int64.ofNat first)] zMS zMR mi2 ml2 K') := by
    intro K' hK
    refine t_236 (d := d + 3) hp1 ?_
    rw [mSat_e hE1, l_of (by omega)]
    refine t_232 (d := d + 3) eDp y1 (by omega) (by omega) hF (fun ml' hj hF' => hK ml' hj ?_)
    rw [y2, Nat.mul_comm] at hF'
    exact hF'
  rcases ha with rfl | rfl
  · refine ⟨fun _ => add _ (fun ml' hj hF' => ?_), fun x => absurd rfl x⟩
    refine B_237_19 _ _ _ _ ⟨fun x => absurd x (by decide), fun _ => ⟨fun _ => h mi1 ml' hE1 h27 hj ?_, fun x => absurd (by decide) x⟩⟩
    rw [lotAv, if_neg (by decide)]; exact hF'
  · have loop : ∀ ml', jS ml ml' → iFr (V + if mCnt m1 = 0 then LOTS * mSat m1 else 0) (LOTS * first) ml' → Wf (d + 6) 237 19 [.ref 0, .int 2, .int (Int32.ofNat first), .int (Int32.ofNat (mCnt m1)), .int 1] [] zMS zMR mi1 ml' (qV K) := by
      intro ml' hj hF'
      have hs : LOTS * mSat m1 ≤ LOTS * 5 := Nat.mul_le_mul_left _ hs5
      refine t_237_19 (s0 := mi 27) (ml0 := ml) hf (V := V + if mCnt m1 = 0 then LOTS * mSat m1 else 0) (by split <;> omega) hn hA hL (fun mi' ml' a b c e => h mi' ml' a b c ?_) 31 1 mi1 ml' rfl (by decide) hE1 h27 hj ?_
      · rw [lotAv_wan, ← Nat.add_assoc]; exact e
      · rw [lS_1, Nat.zero_mul]; exact hF'
    refine ⟨fun x => absurd x (by decide), fun _ => ⟨fun x => ?_, fun x => ?_⟩⟩
    · have h0 : ¬ mCnt m1 = 0 := fun y => x (by rw [y]; rfl)
      exact loop ml jS.rfl (by rw [if_neg h0]; exact hF)
    · have h0 : mCnt m1 = 0 := (n_eq (b := 0) (by omega) (by omega)).mp (Decidable.not_not.mp x)
      exact add _ (fun ml' hj hF' => loop ml' hj (by rw [if_pos h0]; exact hF'))
theorem t_235_32 {Q : zQ} {tk : Nat → List Nat} {n a V0 : Nat} {b : Int32} {m : zI} {ml0 : zJ} (ha : a = 1 ∨ a = 2) (hV0 : V0 ≤ 5 * LOTS) (hn : n ≤ 80000) (hA : iA n m tk) (hL : iL m tk)
    (hQ : ∀ mi' ml', mE m mi' → jS ml0 ml' → iFr (V0 + lS m (fun g => lotAv false (a - 1) (mGo m g)) 32) (LOTS * max 1 (mCnt m)) ml' → TL (d + 6) 234 [.long (ml' 0 48), .long (ml' 0 49), .int b] zMS zMR mi' ml' (fun v m l => Q (some (.long v)) m l)) :
    ∀ (j g : Nat) (mi : zI) (ml : zJ), g + j = 32 → 1 ≤ g → mE m mi → jS ml0 ml → iFr (V0 + lS m (fun g => lotAv false (a - 1) (mGo m g)) g) (LOTS * max 1 (mCnt m)) ml →
      Wf (d + 7) 235 32 [.ref 0, .int (Int32.ofNat a), .int b, .int (Int32.ofNat (mCnt m)), .int (Int32.ofNat g)] [] zMS zMR mi ml Q
  | 0, g, mi, ml, e, h1, hE, hj, hF => by
    obtain rfl : g = 32 := by omega
    exact B_235_32 _ _ _ _ ⟨fun _ => hQ mi ml hE hj hF, fun x => absurd (show (32 : Int32) ≤ Int32.ofNat 32 by decide) x⟩
  | j + 1, g, mi, ml, e, h1, hE, hj, hF => by
    have hc31 := mCnt_le m
    have hC := iL_c hA.2.1 hL
    have nxt : ∀ (mi' : zI) (ml' : zJ), mE m mi' → jS ml0 ml' → iFr (V0 + lS m (fun g => lotAv false (a - 1) (mGo m g)) (g + 1)) (LOTS * max 1 (mCnt m)) ml' → Wf (d + 7) 235 32 [.ref 0, .int (Int32.ofNat a), .int b, .int (Int32.ofNat (mCnt m)), .int (Int32.ofNat (g + 1))] [] zMS zMR mi' ml' Q :=
      fun mi' ml' a b c => t_235_32 ha hV0 hn hA hL hQ j (g + 1) mi' ml' (by omega) (by omega) a b c
    refine B_235_32 _ _ _ _ ⟨fun x => absurd ((n_le (a := 32) (by omega) (by omega)).mp x) (by omega), fun _ => ⟨fun x => ?_, fun _ => ?_⟩⟩
    · rcases ha with rfl | rfl <;> exact absurd x (by decide)
    rw [n_suc]
    refine t_try (d := d + 1) (s := 0) (by decide) hA hL hE (by omega) (fun hno => nxt mi ml hE hj ?_) (fun hgo mi9 hE9 hS9 h9 => ?_)
    · rw [lS_suc, if_neg (fun q => hno q.2)]; exact hF
    · have hcp := mCnt_pos (by omega) h1 hgo
      have hA9 := iA_go (n := n) (g := g) (by omega) (mGoes_lt hC (by omega) hgo) hA
      have hle : lS m (fun g => lotAv false (a - 1) (mGo m g)) g ≤ 31 * (5 * LOTS) := lS_le (by omega) (fun x hx hgx => lotAv_le false (a - 1) (n + 1) (mGo m x) (by omega) (iA_go (by omega) (mGoes_lt hC (by omega) hgx) hA) (iL_go x hL))
      rw [lots_max hcp] at hF
      refine t_237 ha ⟨hcp, by omega⟩ (by omega) (by omega) hA9 (iL_go g hL) hE9 hF (fun mi' ml' hE' h27 hj' hF' => ?_)
      refine t_layb (d := d + 5) (by decide) hE' (mSlot_27 hS9 (fun k _ hk => h27 k (by omega))) (fun mi'' hE'' _ => nxt mi'' ml' hE'' (hj.trans hj') ?_)
      rw [lS_suc, if_pos ⟨h1, hgo⟩, lots_max hcp, ← Nat.add_assoc]
      exact hF'
theorem t_235 {K : Int64 → zI → zJ → Prop} {tk : Nat → List Nat} {n : Nat} {mi : zI} {ml : zJ} {a b : Int32} (hn : n ≤ 80000) (hA : iA n mi tk) (h : ∀ mi' ml', mT mi mi' → jS ml ml' → K (aWanted mi tk a b) mi' ml') : TL (d + 7) 235 [.ref 0, .int a, .int b] zMS zMR mi ml K := by
  unfold aWanted at h
  refine TL_of (B_235 _ _ (t_157 ⟨fun q => ?_, fun q => t_157 ⟨fun r => ?_, fun r => ?_⟩⟩))
  · have h' := h mi ml mT.rfl jS.rfl
    rw [if_pos (fun x => by rw [if_pos x.1] at q; exact absurd q (by decide))] at h'; exact h'
  · have ha : 0 ≤ a ∧ a ≤ 2 := Decidable.byContradiction fun x => q (by rw [if_neg x])
    have hb : 0 ≤ b ∧ b ≤ 1 := Decidable.byContradiction fun x => r (by rw [if_neg x])
    have hb' : b = 0 ∨ b = 1 := by
      obtain ⟨k, k1, rfl⟩ := n_nat (Int32.not_lt.mpr hb.1)
      have := (n_le (b := 1) k1 (by decide)).mp hb.2
      rcases (by omega : k = 0 ∨ k = 1) with rfl | rfl
      · exact .inl rfl
      · exact .inr rfl
    obtain ⟨N, N1, rfl⟩ := n_nat (x := a) (Int32.not_lt.mpr ha.1)
    have N3 : N ≤ 2 := (n_le (b := 2) N1 (by decide)).mp ha.2
    rw [n_cl N1] at h
    refine t_191 (d := d + 2) hA.1 hA.2.1 hA.2.2.1 (fun m3 hG3 => t_198 (d := d + 1) (iH_s hG3.s hA.1) (iP_s hG3.s hA.2.1) (fun m4 hG4 hl4 => ?_))
    have hT3 : mT mi m3 := hG3.1.t (by decide)
    have hE3 : mE (mLook mi tk) m3 := mLook_e hT3 (iL_of hG3)
    have hE4 := hE3.trans hG4.e
    have e40 : m4 0 40 = Int32.ofNat (mCnt (mLook mi tk)) := by rw [hl4.1]; exact congrArg Int32.ofNat (mCnt_e hE3)
    have hAL := iA_t (mLook_t mi tk) hA
    have hLL := mLook_l mi tk
    have hA4 := iA_e hE4 hAL
    have hC := iL_c hAL.2.1 hLL
    have hc31 := mCnt_le (mLook mi tk)
    have hs5 := (mSat_of hAL.2.1).2
    have hsL : LOTS * mSat (mLook mi tk) ≤ LOTS * 5 := Nat.mul_le_mul_left _ hs5
    have eL : LOTS = 72201776446800 := rfl
    have fin : ∀ mi' ml', mE (mLook mi tk) mi' → jS ml ml' → K (aFrac (lotV false N (mLook mi tk)) (lotD N (mLook mi tk)) b) mi' ml' := by
      intro mi' ml' hE hj
      have h' := h mi' ml' ((mLook_t mi tk).trans hE.1) hj
      rw [if_neg (fun x => x ⟨ha, hb⟩)] at h'
      exact h'
    rw [e40]
    have well : ∀ (V0 : Nat) (ml1 : zJ), N = 1 ∨ N = 2 → jS ml ml1 → V0 ≤ 5 * LOTS → V0 + lS (mLook mi tk) (fun g => lotAv false (N - 1) (mGo (mLook mi tk) g)) 32 = lotV false N (mLook mi tk) → iFr V0 (LOTS * max 1 (mCnt (mLook mi tk))) ml1 → Wf (d + 7) 235 32 [.ref 0, .int (Int32.ofNat N), .int b, .int (Int32.ofNat (mCnt (mLook mi tk))), .int 1] [] zMS zMR m4 ml1 (qL K) := by
      intro V0 ml1 hN hj hV0 eV hF
      have eD : lotD N (mLook mi tk) = LOTS * max 1 (mCnt (mLook mi tk)) := by unfold lotD; rw [if_neg (by omega)]
      have hle : lS (mLook mi tk) (fun g => lotAv false (N - 1) (mGo (mLook mi tk) g)) 32 ≤ 31 * (5 * LOTS) := 
        lS_le (by omega) (fun x hx hgx => lotAv_le false (N - 1) (n + 1) (mGo (mLook mi tk) x) (by omega) (iA_go (by omega) (mGoes_lt hC (by omega) hgx) hAL) (iL_go x hLL))
      refine t_235_32 (ml0 := ml) hN hV0 hn hAL hLL (fun mi' ml' hE hj hF => ?_) 31 1 m4 _ rfl (by decide) hE4 hj ?_
      · rw [eV, ← eD] at hF
        have : LOTS * max 1 (mCnt (mLook mi tk)) ≤ LOTS * 31 := Nat.mul_le_mul_left _ (by omega)
        exact t_234' (d := d + 4) hb' (by rw [eD]; exact Nat.mul_pos (by decide) (by omega)) (by omega) (by omega) hF (fin mi' ml' hE hj)
      · rw [lS_1]; exact hF
    refine ⟨fun x => t_236 (d := d + 4) hA4.2.1 (TV_of (B_230 _ ?_)), fun x => ⟨fun y => TV_of (B_230 _ ?_), fun y => t_236 (d := d + 4) hA4.2.1 (TV_of (B_230 _ ?_))⟩⟩
    · have h0 : N = 0 := (n_eq (b := 0) (by omega) (by omega)).mp x
      subst h0
      refine B_235_32 _ _ _ _ ⟨fun x => absurd x (by decide), fun _ => ⟨fun _ => ?_, fun x => absurd (by decide) x⟩⟩
      rw [mSat_e hE4, l_of (by omega)]
      have eD : lotD 0 (mLook mi tk) = LOTS := by unfold lotD; rw [if_pos rfl]; rfl
      have eV : lotV false 0 (mLook mi tk) = LOTS * mSat (mLook mi tk) := by unfold lotV; rw [if_pos (.inl rfl), if_neg (by decide)]
      exact t_234' (d := d + 4) (V := lotV false 0 (mLook mi tk)) (D := lotD 0 (mLook mi tk)) hb' (by rw [eD]; decide) (by rw [eV]; omega) (by rw [eD]; decide) (by rw [eV, eD]; exact iFr_s _ _ ml) (fin m4 _ hE4 (jS_2 ml _ _))
    · have hN : N = 1 ∨ N = 2 := by
        have : ¬ N = 0 := fun z => x (by rw [z]; rfl)
        omega
      have h0 : ¬ mCnt (mLook mi tk) = 0 := fun z => y (by rw [z]; rfl)
      refine well 0 _ hN (jS_2 ml 0 1) (Nat.zero_le _) ?_ (iFr_0 _ ml)
      rw [Nat.zero_add]; unfold lotV; rw [if_neg (by omega)]
    · have hN : N = 1 ∨ N = 2 := by
        have : ¬ N = 0 := fun z => x (by rw [z]; rfl)
        omega
      have h0 : mCnt (mLook mi tk) = 0 := (n_eq (b := 0) (by omega) (by omega)).mp (Decidable.not_not.mp y)
      rw [mSat_e hE4, l_of (by omega)]
      refine well (LOTS * mSat (mLook mi tk)) _ hN (jS_2 ml _ _) (by omega) ?_ ?_
      · have : gl (mGoes (mLook mi tk)) 32 = [] := List.length_eq_zero_iff.mp h0
        unfold lotV lS
        rw [if_pos (.inr h0), if_neg (by decide), this]; rfl
      · rw [h0]; exact iFr_s _ _ ml
  · have h' := h mi ml mT.rfl jS.rfl
    rw [if_pos (fun x => by rw [if_pos x.2] at r; exact r (by decide))] at h'; exact h'
end WANTED
