/-! The model: likely, wanted. -/
theorem iFr_0 (D : Nat) (ml : zJ) : iFr 0 D (zu (zu ml 0 48 0) 0 49 1) := ⟨0, 1, by rw [zu_nk (by decide), zu_eq]; rfl, by rw [zu_eq]; rfl, by decide, by decide, by rw [Nat.zero_mul, Nat.zero_mul]⟩
theorem iFr_s (V D : Nat) (ml : zJ) : iFr (D * V) D (zu (zu ml 0 48 (Int64.ofNat V)) 0 49 1) := ⟨V, 1, by rw [zu_nk (by decide), zu_eq], by rw [zu_eq]; rfl, by decide, Nat.coprime_one_right V, by rw [Nat.mul_one, Nat.mul_comm]⟩
theorem jS_2 (ml : zJ) (x y : Int64) : jS ml (zu (zu ml 0 48 x) 0 49 y) := fun c k hc => by rw [zu_nc (by omega), zu_nc (by omega)]
theorem mSlot_27 {s : Nat} {m mi mi' : zI} (h : mSlot s m mi) (e : ∀ k, 14 * s ≤ k → k < 14 * s + 14 → mi' 27 k = mi 27 k) : mSlot s m mi' := by
  obtain ⟨a, b, c, f⟩ := h
  exact ⟨by rw [e _ (by omega) (by omega)]; exact a, by rw [e _ (by omega) (by omega)]; exact b, by rw [e _ (by omega) (by omega)]; exact c, fun k hk => by rw [e _ (by omega) (by omega)]; exact f k hk⟩
theorem lots_max {c : Nat} (h : 1 ≤ c) : LOTS * max 1 c = LOTS * c := by rw [Nat.max_eq_right h]
theorem sum_ones : ∀ l : List Nat, (l.map (fun _ => 1)).sum = l.length
  | [] => rfl
  | _ :: l => by rw [List.map_cons, List.sum_cons, sum_ones l, List.length_cons, Nat.add_comm]
section LIKELY
variable {d : Nat}
theorem t_234' {K : Int64 → zI → zJ → Prop} {mi : zI} {ml : zJ} {V D : Nat} {c : Int32} (hc : c = 0 ∨ c = 1) (hD : 0 < D) (hV : V < 9223372036854775808) (hD2 : D < 9223372036854775808) (hF : iFr V D ml) (h : K (aFrac V D c) mi ml) : TL (d + 2) 234 [.long (ml 0 48), .long (ml 0 49), .int c] zMS zMR mi ml K := by
  obtain ⟨a, b, e1, e2, hb, hco, hx⟩ := hF
  obtain ⟨q1, q2⟩ := iFr_le hD hco hx
  have := Nat.le_of_dvd hD q1
  rw [e1, e2]
  exact t_234 hc hD hb (by omega) (by omega) hx h
theorem t_229_24 {Q : zQ} {tk : Nat → List Nat} {n a : Nat} {b : Int32} {m : zI} {ml0 : zJ} (ha : a = 2 ∨ a = 3) (hn : n ≤ 80000) (hA : iA n m tk) (hL : iL m tk)
    (hQ : ∀ mi' ml', mE m mi' → jS ml0 ml' → iFr (lS m (fun g => lotAv true (a - 1) (mGo m g)) 32) (LOTS * max 1 (mCnt m)) ml' → TL (d + 6) 234 [.long (ml' 0 48), .long (ml' 0 49), .int b] zMS zMR mi' ml' (fun v m l => Q (some (.long v)) m l)) :
    ∀ (j g : Nat) (mi : zI) (ml : zJ), g + j = 32 → 1 ≤ g → mE m mi → jS ml0 ml → iFr (lS m (fun g => lotAv true (a - 1) (mGo m g)) g) (LOTS * max 1 (mCnt m)) ml →
      Wf (d + 7) 229 24 [.ref 0, .int (Int32.ofNat a), .int b, .int (Int32.ofNat (mCnt m)), .int (Int32.ofNat g)] [] zMS zMR mi ml Q
  | 0, g, mi, ml, e, h1, hE, hj, hF => by
    obtain rfl : g = 32 := by omega
    refine B_229_24 _ _ _ _ ⟨fun _ => ⟨fun _ => hQ mi ml hE hj hF, fun x => absurd (fun y => ?_) x⟩, fun x => absurd (show (32 : Int32) ≤ Int32.ofNat 32 by decide) x⟩
    rcases ha with rfl | rfl <;> exact absurd y (by decide)
  | j + 1, g, mi, ml, e, h1, hE, hj, hF => by
    have hc31 := mCnt_le m
    have hC := iL_c hA.2.1 hL
    have nxt : ∀ (mi' : zI) (ml' : zJ), mE m mi' → jS ml0 ml' → iFr (lS m (fun g => lotAv true (a - 1) (mGo m g)) (g + 1)) (LOTS * max 1 (mCnt m)) ml' → Wf (d + 7) 229 24 [.ref 0, .int (Int32.ofNat a), .int b, .int (Int32.ofNat (mCnt m)), .int (Int32.ofNat (g + 1))] [] zMS zMR mi' ml' Q :=
      fun mi' ml' a b c => t_229_24 ha hn hA hL hQ j (g + 1) mi' ml' (by omega) (by omega) a b c
    refine B_229_24 _ _ _ _ ⟨fun x => absurd ((n_le (a := 32) (by omega) (by omega)).mp x) (by omega), fun _ => ⟨fun x => ?_, fun _ => ?_⟩⟩
    · rcases ha with rfl | rfl <;> exact absurd x (by decide)
    rw [n_suc]
    refine t_try (d := d + 1) (s := 0) (by decide) hA hL hE (by omega) (fun hno => nxt mi ml hE hj ?_) (fun hgo mi9 hE9 hS9 h9 => ?_)
    · rw [lS_suc, if_neg (fun q => hno q.2)]; exact hF
    · have hcp := mCnt_pos (by omega) h1 hgo
      have hA9 := iA_go (n := n) (g := g) (by omega) (mGoes_lt hC (by omega) hgo) hA
      have hle : lS m (fun g => lotAv true (a - 1) (mGo m g)) g ≤ 31 * (5 * LOTS) := lS_le (by omega) (fun x hx hgx => lotAv_le true (a - 1) (n + 1) (mGo m x) (by omega) (iA_go (by omega) (mGoes_lt hC (by omega) hgx) hA) (iL_go x hL))
      rw [lots_max hcp] at hF
      refine t_231 ha ⟨hcp, by omega⟩ (by omega) (by omega) hA9 (iL_go g hL) hE9 hF (fun mi' ml' hE' h27 hj' hF' => ?_)
      refine t_layb (d := d + 5) (by decide) hE' (mSlot_27 hS9 (fun k _ hk => h27 k (by omega))) (fun mi'' hE'' _ => nxt mi'' ml' hE'' (hj.trans hj') ?_)
      rw [lS_suc, if_pos ⟨h1, hgo⟩, lots_max hcp]
      exact hF'
theorem t_229 {K : Int64 → zI → zJ → Prop} {tk : Nat → List Nat} {n : Nat} {mi : zI} {ml : zJ} {a b : Int32} (hn : n ≤ 80000) (hA : iA n mi tk) (h : ∀ mi' ml', mT mi mi' → jS ml ml' → K (aLikely mi tk a b) mi' ml') : TL (d + 7) 229 [.ref 0, .int a, .int b] zMS zMR mi ml K := by
  unfold aLikely at h
  refine TL_of (B_229 _ _ (t_157 ⟨fun q => ?_, fun q => t_157 ⟨fun r => ?_, fun r => ?_⟩⟩))
  · have h' := h mi ml mT.rfl jS.rfl
    rw [if_pos (fun x => by rw [if_pos x.1] at q; exact absurd q (by decide))] at h'; exact h'
  · have ha : 1 ≤ a ∧ a ≤ 3 := Decidable.byContradiction fun x => q (by rw [if_neg x])
    have hb : 0 ≤ b ∧ b ≤ 1 := Decidable.byContradiction fun x => r (by rw [if_neg x])
    have hb' : b = 0 ∨ b = 1 := by
      obtain ⟨k, k1, rfl⟩ := n_nat (Int32.not_lt.mpr hb.1)
      have := (n_le (b := 1) k1 (by decide)).mp hb.2
      rcases (by omega : k = 0 ∨ k = 1) with rfl | rfl
      · exact .inl rfl
      · exact .inr rfl
    obtain ⟨N, N1, rfl⟩ := n_nat (x := a) (Int32.not_lt.mpr (Int32.le_trans (by decide) ha.1))
    have N3 : N ≤ 3 := (n_le (b := 3) N1 (by decide)).mp ha.2
    have N2 : 1 ≤ N := (n_le (a := 1) (by decide) N1).mp ha.1
    rw [n_cl N1] at h
    refine t_191 (d := d + 2) hA.1 hA.2.1 hA.2.2.1 (fun m3 hG3 => t_198 (d := d + 1) (iH_s hG3.s hA.1) (iP_s hG3.s hA.2.1) (fun m4 hG4 hl4 => ?_))
    have hT3 : mT mi m3 := hG3.1.t (by decide)
    have hE3 : mE (mLook mi tk) m3 := mLook_e hT3 (iL_of hG3)
    have hE4 := hE3.trans hG4.e
    have e40 : m4 0 40 = Int32.ofNat (mCnt (mLook mi tk)) := by rw [hl4.1]; exact congrArg Int32.ofNat (mCnt_e hE3)
    have hAL := iA_t (mLook_t mi tk) hA
    have hLL := mLook_l mi tk
    have hC := iL_c hAL.2.1 hLL
    have hc31 := mCnt_le (mLook mi tk)
    have eL : LOTS = 72201776446800 := rfl
    have fin : ∀ mi' ml', mE (mLook mi tk) mi' → jS ml ml' → K (aFrac (lotV true N (mLook mi tk)) (lotD N (mLook mi tk)) b) mi' ml' := by
      intro mi' ml' hE hj
      have h' := h mi' ml' ((mLook_t mi tk).trans hE.1) hj
      rw [if_neg (fun x => x ⟨ha, hb⟩)] at h'
      exact h'
    rw [e40]
    refine TV_of (B_230 _ ?_)
    show Wf (d + 7) 229 24 [.ref 0, .int (Int32.ofNat N), .int b, .int (Int32.ofNat (mCnt (mLook mi tk))), .int 1] [] zMS zMR m4 (zu (zu ml 0 48 0) 0 49 1) (qL K)
    by_cases hN1 : N = 1
    · subst hN1
      have eD : lotD 1 (mLook mi tk) = LOTS * max 1 (mCnt (mLook mi tk)) := rfl
      have eDp : 0 < lotD 1 (mLook mi tk) := Nat.mul_pos (by decide) (by omega)
      refine B_229_24 _ _ _ _ ⟨fun x => absurd x (by decide), fun _ => ⟨fun _ => ⟨fun x => absurd rfl x, fun _ => ⟨fun x => ?_, fun x => ?_⟩⟩, fun x => absurd (by decide) x⟩⟩
      · have h0 : mCnt (mLook mi tk) = 0 := by have := (n_le (b := 0) (by omega) (by omega)).mp x; omega
        refine t_234 (d := d + 4) (V := lotV true 1 (mLook mi tk)) (a := 0) (b := 1) hb' eDp (by decide) (by decide) (by decide) ?_ (fin m4 _ hE4 (jS_2 ml 0 1))
        rw [lotV, if_pos (.inr h0)]; simp
      · have h0 : ¬ mCnt (mLook mi tk) = 0 := fun y => x (by rw [y]; exact Int32.le_refl _)
        refine t_234 (d := d + 4) (V := lotV true 1 (mLook mi tk)) (a := 1) (b := 1) hb' eDp (by decide) (by decide) (by decide) ?_ (fin m4 _ hE4 (jS_2 ml 0 1))
        rw [lotV, if_neg (fun y => y.elim (by decide) h0), eD, Nat.one_mul, Nat.mul_one, lots_max (by omega), lS_mul _ _ (fun _ => 1) LOTS (fun g => by rw [lotAv]; rfl)]
        congr 1
        unfold lS mCnt
        exact (sum_ones _).symm
    · have hN : N = 2 ∨ N = 3 := by omega
      have eD : lotD N (mLook mi tk) = LOTS * max 1 (mCnt (mLook mi tk)) := by unfold lotD; rw [if_neg (by omega)]
      have eV : lotV true N (mLook mi tk) = lS (mLook mi tk) (fun g => lotAv true (N - 1) (mGo (mLook mi tk) g)) 32 := by
        unfold lotV
        by_cases h0 : mCnt (mLook mi tk) = 0
        · rw [if_pos (.inr h0), if_pos rfl, if_neg (by omega)]
          have : gl (mGoes (mLook mi tk)) 32 = [] := List.length_eq_zero_iff.mp h0
          unfold lS; rw [this]; rfl
        · rw [if_neg (by omega)]
      have hle : lotV true N (mLook mi tk) ≤ 31 * (5 * LOTS) := by
        rw [eV]
        exact lS_le (by omega) (fun x hx hgx => lotAv_le true (N - 1) (n + 1) (mGo (mLook mi tk) x) (by omega) (iA_go (by omega) (mGoes_lt hC (by omega) hgx) hAL) (iL_go x hLL))
      refine t_229_24 (ml0 := ml) hN hn hAL hLL (fun mi' ml' hE hj hF => ?_) 31 1 m4 _ rfl (by decide) hE4 (jS_2 ml 0 1) ?_
      · rw [← eV, ← eD] at hF
        have : LOTS * max 1 (mCnt (mLook mi tk)) ≤ LOTS * 31 := Nat.mul_le_mul_left _ (by omega)
        exact t_234' (d := d + 4) hb' (by rw [eD]; exact Nat.mul_pos (by decide) (by omega)) (by omega) (by omega) hF (fin mi' ml' hE hj)
      · rw [lS_1]; exact iFr_0 _ ml
  · have h' := h mi ml mT.rfl jS.rfl
    rw [if_pos (fun x => by rw [if_pos x.2] at r; exact r (by decide))] at h'; exact h'
end LIKELY
