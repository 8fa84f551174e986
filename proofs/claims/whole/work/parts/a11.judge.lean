/-! The class: tapes, judge. -/
theorem lg_lt (x y : Int64) : lg_cmp x y < 0 ↔ x.toInt < y.toInt := by
  unfold lg_cmp
  split
  · rename_i q
    have q : y < x := q
    rw [Int64.lt_iff_toInt_lt] at q
    exact ⟨fun z => absurd z (by decide), fun z => by omega⟩
  · rename_i q
    have q : ¬ y < x := q
    rw [Int64.lt_iff_toInt_lt] at q
    split
    · rename_i e
      subst e
      exact ⟨fun z => absurd z (by decide), fun z => by omega⟩
    · rename_i e
      refine ⟨fun _ => ?_, fun _ => by decide⟩
      have : x.toInt ≠ y.toInt := fun z => e (Int64.toInt_inj.mp z)
      omega
theorem lg_ge (x y : Int64) : 0 ≤ lg_cmp x y ↔ y.toInt ≤ x.toInt := by
  have := lg_lt x y
  rw [← Int32.not_lt, this]
  omega
theorem n_tape {a : Int32} (h : 0 ≤ a) (h5 : a ≤ 5) : ∃ t : Nat, t < 6 ∧ a = Int32.ofNat t ∧ a.toNatClampNeg = t := by
  obtain ⟨n, hn, rfl⟩ := n_nat (Int32.not_lt.mpr h)
  have := (n_le (b := 5) hn (by decide)).mp h5
  exact ⟨n, by omega, rfl, n_cl hn⟩
theorem n_not6 {a : Int32} : ¬ 6 ≤ a ↔ a ≤ 5 := by
  rw [Int32.le_iff_toInt_le, Int32.le_iff_toInt_le]
  have e1 : (6 : Int32).toInt = 6 := rfl
  have e2 : (5 : Int32).toInt = 5 := rfl
  omega
/-- the tapes are the model's -/
def cTp (c : zI) (lc : zJ) (m : zI) (lm : zJ) : Prop := ∀ t, t < 6 → c 42 t = m 14 t ∧ c 43 t = m 15 t ∧ ∀ k, k < 60 → lc (36 + t) k = lm 16 (60 * t + k)
section JUDGEC
variable {d : Nat} {X : zS} {fr nx : Nat} {P : zR0} {cs : List pCl} {c m : zI} {lc lm : zJ}
theorem tp_row {t : Nat} (ht : t < 6) : zCR fr nx P 35 t = 36 + t + 1 ∧ zk (zCS ++ X) (36 + t) = 101 ∧ zn (zCS ++ X) (36 + t) = 60 := by
  have : t = 0 ∨ t = 1 ∨ t = 2 ∨ t = 3 ∨ t = 4 ∨ t = 5 := by omega
  rcases this with rfl | rfl | rfl | rfl | rfl | rfl <;> exact ⟨rfl, rfl, rfl⟩
theorem t_124 {K : Int32 → zI → zJ → Prop} {a : Int32} (h : K (if 0 ≤ a ∧ a ≤ 5 then 1 else 0) c lc) : TI (d + 1) 124 [.int a] (zCS ++ X) (zCR fr nx P) c lc K := by
  refine TI_of (B_124 _ ⟨fun x => ?_, fun x => ⟨fun y => ?_, fun y => ?_⟩⟩)
  · rw [if_neg (fun q => absurd x (Int32.not_lt.mpr q.1))] at h; exact h
  · rw [if_neg (fun q => absurd y (n_not6.mpr q.2))] at h; exact h
  · rw [if_pos ⟨Int32.not_lt.mp x, n_not6.mp y⟩] at h; exact h
theorem t_125 {K : Int32 → zI → zJ → Prop} {t sz : Nat} {b : Int64} (ht : t < 6) (hs : sz ≤ 60) (h43 : c 43 t = Int32.ofNat sz) (h : K (if 0 ≤ b.toInt ∧ b.toInt < (sz : Int) then 1 else 0) c lc) : TI (d + 1) 125 [.ref 0, .int (Int32.ofNat t), .long b] (zCS ++ X) (zCR fr nx P) c lc K := by
  obtain ⟨z1, z2, z3⟩ := tp_row (X := X) (fr := fr) (nx := nx) (P := P) ht
  have e43 : (c 43 t).toInt64.toInt = (sz : Int) := by rw [Int32.toInt_toInt64, h43, n_int (by omega)]
  have e0 : (0 : Int64).toInt = 0 := rfl
  have e60 : (Int32.toInt64 (Int32.ofNat 60)).toInt = 60 := rfl
  have hz := n_zin (k := t) (n := 6) ht (by decide)
  refine TI_of (B_125 _ _ ⟨fun x => ?_, fun x => ⟨hz, ?_⟩⟩)
  · have x := (lg_lt _ _).mp x
    rw [if_neg (by omega)] at h; exact h
  · have x : ¬ b.toInt < 0 := fun q => x ((lg_lt _ _).mpr (by omega))
    rw [n_cl (show t < 2147483648 by omega), z1]
    refine ⟨fun y => ?_, fun y => ⟨hz, by omega, fun c1 e1 => ?_⟩⟩
    · have y := (lg_ge _ _).mp y
      rw [if_neg (by omega)] at h; exact h
    · obtain rfl : c1 = 36 + t := by omega
      have y : ¬ (c 43 t).toInt64.toInt ≤ b.toInt := fun q => y ((lg_ge _ _).mpr q)
      rw [z2, z3]
      refine ⟨rfl, fun z => ?_, fun z => ?_⟩
      · have z := (lg_ge _ _).mp z
        exfalso
        omega
      · rw [if_pos (by omega)] at h; exact h
theorem t_123_42 {Q : zQ} {t I p : Nat} {w : Int32} (hp : p < 6) (h10 : c 1 0 = Int32.ofNat p) (h81 : c 8 1 = w) (ht : t < 6) (hI : I < 2147483648) (h43 : c 43 t = Int32.ofNat (mSz m t)) (hs : mSz m t ≤ 60) (hl : ∀ k, k < 60 → lc (36 + t) k = lm 16 (60 * t + k)) :
    ∀ (f k : Nat), k + f = p → Q (some (.int (mJd m lm t I w f k))) c lc → Wf (d + 2) 123 42 [.ref 0, .int (Int32.ofNat t), .int (Int32.ofNat I), .retAddr 0, .retAddr 0, .retAddr 0, .int (Int32.ofNat k)] [] (zCS ++ X) (zCR fr nx P) c lc Q
  | 0, k, e, h => by
    obtain rfl : k = p := by omega
    refine B_123_42 _ _ _ ⟨fun _ => h, fun x => absurd (by rw [h10]; exact Int32.le_refl _) x⟩
  | f + 1, k, e, h => by
    obtain ⟨z1, z2, z3⟩ := tp_row (X := X) (fr := fr) (nx := nx) (P := P) ht
    have hz := n_zin (k := t) (n := 6) ht (by decide)
    refine B_123_42 _ _ _ ⟨fun x => ?_, fun _ => ⟨fun x => absurd ((n_lt (b := 0) hI (by decide)).mp x) (by omega), fun _ => ?_⟩⟩
    · rw [h10] at x
      exact absurd ((n_le (by omega) (by omega)).mp x) (by omega)
    · rw [l_of hI, l_of (show k < 2147483648 by omega), l_add]
      have ei : (Int64.ofNat (I + k)).toInt = ((I + k : Nat) : Int) := l_int (by omega)
      refine t_125 (d := d) ht hs h43 ⟨fun x => ?_, fun x => ?_⟩
      · have hx : I + k < mSz m t := by
          refine Decidable.byContradiction fun z => x ?_
          rw [if_neg (by omega)]
        rw [mJd, if_neg (fun y => y hx)] at h
        refine ⟨hz, ?_⟩
        rw [n_cl (show t < 2147483648 by omega), z1]
        refine ⟨by omega, fun c2 e2 => ?_⟩
        obtain rfl : c2 = 36 + t := by omega
        rw [z2, z3, n_add]
        refine ⟨rfl, n_zin (by omega) (by decide), by decide, ?_⟩
        rw [n_cl (show I + k < 2147483648 by omega), hl (I + k) (by omega), h81, n_suc, ← Nat.add_assoc]
        refine ⟨fun y => ?_, fun y => ?_⟩
        · rw [if_pos ((lg_cmp_eq _ _).mp y)] at h
          exact t_123_42 hp h10 h81 ht hI h43 hs hl f (k + 1) (by omega) h
        · rw [if_neg (fun z => y ((lg_cmp_eq _ _).mpr z))] at h
          exact h
      · have hx : ¬ I + k < mSz m t := fun y => x (by rw [if_pos (by omega)]; decide)
        rw [mJd, if_pos hx] at h
        exact h
theorem t_123 {K : Int32 → zI → zJ → Prop} {a b q e : Int32} {n : Nat} (hA : iA n m (tkOf cs)) (hn : n + 40 ≤ 100000) (hR : cRu c m cs) (hS : cSc 1 c m) (hm : iMm c lc) (hC : cPls X fr nx P c m) (hT : cTp c lc m lm) (hTp : iTp m)
    (h : ∀ c' lc', iMm c' lc' → fRun c lc c' lc' → K (aJudge m (tkOf cs) lm a b q e) c' lc') : TI (d + 19) 123 [.ref 0, .int a, .int b, .int q, .int e] (zCS ++ X) (zCR fr nx P) c lc K := by
  have hrf := h c lc hm (fRun_M (mM_rfl c lc))
  have a6 := hA.2.2.2.2.2.1
  obtain ⟨pe1, pe2⟩ := iP_of hA.2.1
  unfold aJudge at h hrf
  refine TI_of (B_123 a b q e (t_63 (d := d + 17) a6 hC (fun w => ⟨fun _ => t_124 (d := d + 17) ?_, fun c2 e => absurd e (by omega)⟩) (fun p t p1 p2 pe hpl => ⟨fun e => absurd e (by omega), fun c2 e2 => t_124 (d := d + 17) ⟨fun x => ?_, fun x => ⟨fun y => ?_, fun y => ⟨fun z => ?_, fun z => ?_⟩⟩⟩⟩)))
  · rw [if_pos (fun z => w z.2)] at hrf
    exact ⟨fun _ => hrf, fun _ => hrf⟩
  · rw [if_pos (fun z => by rw [if_pos z.1] at x; exact absurd x (by decide))] at hrf; exact hrf
  · have ok : 0 ≤ a ∧ a ≤ 5 := Decidable.byContradiction fun z => x (by rw [if_neg z])
    have isP : mIsP m q := by
      rw [pe]
      exact ⟨(n_le (a := 0) (by decide) (by omega)).mpr (Nat.zero_le _), by rw [a6.1.1]; exact (n_lt (by omega) (by have := a6.1.2; omega)).mpr p1⟩
    rw [if_neg (fun z => z ⟨ok, isP⟩), if_pos (fun z => absurd y (Int32.not_lt.mpr z.1))] at hrf; exact hrf
  · have ok : 0 ≤ a ∧ a ≤ 5 := Decidable.byContradiction fun z => x (by rw [if_neg z])
    have isP : mIsP m q := by
      rw [pe]
      exact ⟨(n_le (a := 0) (by decide) (by omega)).mpr (Nat.zero_le _), by rw [a6.1.1]; exact (n_lt (by omega) (by have := a6.1.2; omega)).mpr p1⟩
    have okb := Int32.not_lt.mp y
    obtain rfl : c2 = t := by omega
    have ea : q.toNatClampNeg = p := by rw [pe, n_cl (by omega)]
    obtain ⟨T, T6, eT, cT⟩ := n_tape ok.1 ok.2
    obtain ⟨N, N40, eN, cN⟩ := n_40 okb z
    obtain ⟨tp1, tp2, tp3⟩ := hT T T6
    obtain ⟨ts1, ts2, ts3⟩ := hTp T T6
    have hz := n_zin (k := T) (n := 6) T6 (by decide)
    rw [if_neg (fun w => w ⟨ok, isP⟩), if_neg (fun w => w ⟨okb, z⟩), cT] at hrf
    have h := fun c' lc' u' v => (by have := h c' lc' u' v; rw [if_neg (fun w => w ⟨ok, isP⟩), if_neg (fun w => w ⟨okb, z⟩), cT, ea, cN] at this; exact this : K (if ¬ (m 14 T = -1 ∨ m 14 T = 4) then -12 else if m 0 0 = 0 then -5 else if m 14 T = -1 ∨ b < 0 then 100 else mJd m lm T b.toNatClampNeg (mRun p N (mLook m (tkOf cs)) 0 1) (mPe m) 0) c' lc')
    have go : (m 14 T = -1 ∨ m 14 T = 4) → TI (d + 18) 92 [.ref 0, .ref c2, .int e] (zCS ++ X) (zCR fr nx P) c lc (fun v5 mi5 ml5 => Wf (d + 19) 123 42 [.ref 0, .int a, .int b, .retAddr 0, .retAddr 0, .retAddr 0, .int 0] [] (zCS ++ X) (zCR fr nx P) mi5 ml5 (qI K)) := by
      intro hs
      rw [eN, eT]
      refine t_92 (d := d) hA hn hR hS hm p2 N40 hpl (fun c' lc' u v s => ?_)
      have h := h c' lc' u v
      rw [if_neg (fun w => w hs)] at h
      have e10 : c' 1 0 = m 0 0 := by rw [v.1 1 0 (by decide) (by decide) (fun z => absurd z.1 (by decide)) (by unfold iVal; omega)]; exact hS.1
      have e43 : c' 43 T = Int32.ofNat (mSz m T) := by rw [v.1 43 T (by decide) (by decide) (fun z => absurd z.1 (by decide)) (by unfold iVal; omega), tp2, ts2]
      by_cases p0 : m 0 0 = 0
      · rw [if_pos p0] at h
        exact B_123_42 _ _ _ ⟨fun _ => h, fun x => absurd (by rw [e10, p0]; decide) x⟩
      · rw [if_neg p0] at h
        have p1 : ¬ mPe m = 0 := fun w => p0 (by rw [pe1, w]; rfl)
        by_cases bn : b < 0
        · rw [if_pos (.inr bn)] at h
          refine B_123_42 _ _ _ ⟨fun x => ?_, fun _ => ⟨fun _ => h, fun x => absurd bn x⟩⟩
          rw [e10, pe1] at x
          exact absurd ((n_le (b := 0) (by omega) (by decide)).mp x) (by omega)
        · obtain ⟨I, hI, eI⟩ := n_nat bn
          have cI : b.toNatClampNeg = I := by rw [eI, n_cl hI]
          have hj : K (mJd m lm T I (mRun p N (mLook m (tkOf cs)) 0 1) (mPe m) 0) c' lc' := by
            by_cases sn : m 14 T = -1
            · rw [if_pos (.inl sn)] at h
              have s0 : mSz m T = 0 := by
                rcases ts1 with w | ⟨s, s5, w⟩
                · exact w.2
                · rw [w] at sn; exact absurd sn (n_ne1 (by omega))
              obtain ⟨f, ef⟩ : ∃ f, mPe m = f + 1 := ⟨mPe m - 1, by omega⟩
              rw [ef, mJd, if_pos (by omega)]
              exact h
            · rw [if_neg (fun w => w.elim sn bn), cI] at h
              exact h
          rw [eI]
          exact t_123_42 (d := d + 17) (Q := qI K) pe2 (by rw [e10]; exact pe1) s.2.1 T6 hI e43 ts3 (fun k hk => by rw [v.2 _ _ (by omega)]; exact tp3 k hk) (mPe m) 0 (by omega) hj
    refine ⟨by rw [eT]; exact hz, fun w => go (.inl ?_), fun w => ⟨by rw [eT]; exact hz, fun w2 => go (.inr ?_), fun w2 => ?_⟩⟩
    · rw [cT, tp1] at w; exact w
    · rw [cT, tp1] at w2; exact w2
    · rw [cT, tp1] at w w2
      rw [if_pos (fun z => z.elim w w2)] at hrf
      exact hrf
  · have ok : 0 ≤ a ∧ a ≤ 5 := Decidable.byContradiction fun z => x (by rw [if_neg z])
    have isP : mIsP m q := by
      rw [pe]
      exact ⟨(n_le (a := 0) (by decide) (by omega)).mpr (Nat.zero_le _), by rw [a6.1.1]; exact (n_lt (by omega) (by have := a6.1.2; omega)).mpr p1⟩
    rw [if_neg (fun w => w ⟨ok, isP⟩), if_pos (fun w => z w.2)] at hrf; exact hrf
end JUDGEC
