/-! trace, taken, count, read; act. -/
def aTrace (l : List Nat) (a : Int32) : Int32 := if 0 ≤ a ∧ a.toNatClampNeg < l.length ∧ a.toNatClampNeg < 20 then Int32.ofNat (l.getD a.toNatClampNeg 0) else -1
/-- whether kind b stands above kind k, or is it -/
def unF : Nat → Nat → Nat → Bool
  | 0, _, _ => false
  | f + 1, k, b => if k = b then true else if k = 0 then false else unF f (if k < 4 then 0 else k - 3) b
def aTaken (m : zI) (a b : Int32) : Int32 := if ¬ (0 ≤ b ∧ b ≤ 6) then -2 else if ¬ mIsP m a then -11 else if unF 3 (mKd m a.toNatClampNeg) b.toNatClampNeg = true then m 2 a.toNatClampNeg else -12
def aRead (m : zI) (lm : zJ) (a b : Int32) : Int64 := if ¬ (0 ≤ a ∧ a ≤ 5) then -9223372036854775808 else if 0 ≤ b ∧ b.toNatClampNeg < mSz m a.toNatClampNeg then lm 16 (60 * a.toNatClampNeg + b.toNatClampNeg) else -9223372036854775808
def aAct (m : zI) (a b x : Int32) : Int32 × List Nat :=
  if ¬ mIsP m a then (0, []) else if ¬ (0 ≤ b ∧ b ≤ 2) then (0, [])
  else if b = 0 then aTak a (m 3 a.toNatClampNeg) (mKd m a.toNatClampNeg) x
  else if b = 1 then aRow a (m 3 a.toNatClampNeg) (mKd m a.toNatClampNeg) (mKd m a.toNatClampNeg) x
  else aTel a (m 3 a.toNatClampNeg) (mKd m a.toNatClampNeg) (mKd m a.toNatClampNeg) x
theorem n_nle {a b : Int32} : ¬ a ≤ b ↔ b < a := Int32.not_le
theorem n_lt3 {b : Int32} : b < 3 ↔ b ≤ 2 := by
  rw [Int32.le_iff_toInt_le, Int32.lt_iff_toInt_lt]
  have e1 : (3 : Int32).toInt = 3 := rfl
  have e2 : (2 : Int32).toInt = 2 := rfl
  omega
theorem n_lt7 {b : Int32} : b < 7 ↔ b ≤ 6 := by
  rw [Int32.le_iff_toInt_le, Int32.lt_iff_toInt_lt]
  have e1 : (7 : Int32).toInt = 7 := rfl
  have e2 : (6 : Int32).toInt = 6 := rfl
  omega
theorem isP_of {m : zI} {a : Int32} {p : Nat} (hP : iPl m) (hp : p < mPl m) (e : a = Int32.ofNat p) : mIsP m a ∧ a.toNatClampNeg = p := by
  have := hP.1.2
  subst e
  exact ⟨⟨(n_le (a := 0) (by decide) (by omega)).mpr (Nat.zero_le _), by rw [hP.1.1]; exact (n_lt (by omega) (by omega)).mpr hp⟩, n_cl (by omega)⟩
section SMALLC
variable {d : Nat} {X : zS} {fr nx : Nat} {P : zR0} {c m : zI} {lc lm : zJ} {T : Nat → Nat}
theorem t_63r {K : Nat → zI → zJ → Prop} {a : Int32} (hP : rPl T X P c m) (h0 : ¬ mIsP m a → K 0 c lc) (h1 : ∀ p, p < mPl m → p < 10 → a = Int32.ofNat p → K (T p + 1) c lc) : TA (d + 1) 63 [.ref 0, .int a] (zCS ++ X) (zCR fr nx P) c lc K := by
  refine TA_of (B_63 a ⟨fun x => ?_, fun x => ⟨fun y => ?_, fun y => ?_⟩⟩)
  · exact h0 (fun q => absurd x (Int32.not_lt.mpr q.1))
  · rw [hP.2.1] at y
    exact h0 (fun q => absurd q.2 (Int32.not_lt.mpr y))
  · rw [hP.2.1] at y
    obtain ⟨p, q1, q2, rfl, q4⟩ := mIsP_nat hP.1 ⟨Int32.not_lt.mp x, Int32.not_le.mp y⟩
    have e : zCR fr nx P 33 p = T p + 1 := ((hP.2.2.1 p q2).1).1
    refine ⟨fun z => absurd ((n_le (a := 10) (by decide) (by omega)).mp z) (by omega), fun _ => ⟨n_zin q1 (by decide), ?_⟩⟩
    rw [n_cl (by omega), e]
    refine ⟨fun z => absurd z (by omega), fun c1 z => ?_⟩
    obtain rfl : c1 = T p := by omega
    exact h1 p q2 q1 rfl
theorem t_146 {K : Int32 → zI → zJ → Prop} {a : Int32} {l : List Nat} (hl : l.length ≤ 1000) (hT : cTr c l) (h : K (aTrace l a) c lc) : TI (d + 1) 146 [.ref 0, .int a] (zCS ++ X) (zCR fr nx P) c lc K := by
  unfold aTrace at h
  refine TI_of (B_146 _ ⟨fun x => ?_, fun x => ⟨by decide, fun y => ?_, fun y => ⟨fun z => ?_, fun z => ?_⟩⟩⟩)
  · rw [if_neg (fun w => absurd x (Int32.not_lt.mpr w.1))] at h; exact h
  · obtain ⟨n, hn, rfl⟩ := n_nat x
    rw [hT.1] at y
    have := (n_le (by omega) hn).mp y
    rw [n_cl hn, if_neg (by omega)] at h; exact h
  · obtain ⟨n, hn, rfl⟩ := n_nat x
    rw [hT.1] at y
    have y : n < l.length := Nat.lt_of_not_le (fun w => y ((n_le (by omega) hn).mpr w))
    have z := (n_lt (b := 20) hn (by decide)).mp z
    have e : (1 : Int32) + Int32.ofNat n = Int32.ofNat (1 + n) := n_add 1 n
    rw [n_cl hn, if_pos ⟨Int32.not_lt.mp x, y, z⟩] at h
    rw [e, n_cl (show 1 + n < 2147483648 by omega), hT.2 n y z]
    exact ⟨n_zin (by omega) (by decide), h⟩
  · obtain ⟨n, hn, rfl⟩ := n_nat x
    rw [n_cl hn, if_neg (fun w => z ((n_lt (b := 20) hn (by decide)).mpr w.2.2))] at h; exact h
theorem t_148 {K : Int32 → zI → zJ → Prop} {k b : Nat} (hk : k < 7) (hb : b < 7) (h : K (bi (unF 3 k b)) c lc) : TI (d + 1) 148 [.int (Int32.ofNat k), .int (Int32.ofNat b)] (zCS ++ X) (zCR fr nx P) c lc K := by
  have hk7 : k = 0 ∨ k = 1 ∨ k = 2 ∨ k = 3 ∨ k = 4 ∨ k = 5 ∨ k = 6 := by omega
  have hb7 : b = 0 ∨ b = 1 ∨ b = 2 ∨ b = 3 ∨ b = 4 ∨ b = 5 ∨ b = 6 := by omega
  rcases hk7 with rfl | rfl | rfl | rfl | rfl | rfl | rfl <;> rcases hb7 with rfl | rfl | rfl | rfl | rfl | rfl | rfl <;> exact zex_I (f := 90) rfl h
theorem t_147 {K : Int32 → zI → zJ → Prop} {a b : Int32} (hP : rPl T X P c m) (h : K (aTaken m a b) c lc) : TI (d + 2) 147 [.ref 0, .int a, .int b] (zCS ++ X) (zCR fr nx P) c lc K := by
  unfold aTaken at h
  refine TI_of (B_147 _ _ ⟨fun x => ?_, fun x => ⟨fun y => ?_, fun y => ?_⟩⟩)
  · rw [if_pos (fun w => absurd x (Int32.not_lt.mpr w.1))] at h; exact h
  · rw [if_neg (fun w => w ⟨Int32.not_lt.mp x, n_lt7.mp y⟩)] at h
    obtain ⟨n, hn, rfl⟩ := n_nat x
    have y := (n_lt (b := 7) hn (by decide)).mp y
    refine t_63r (d := d) hP (fun q => ⟨fun _ => ?_, fun c2 e => absurd e (by omega)⟩) (fun p p1 p2 pe => ⟨fun e => absurd e (by omega), fun c2 e => ?_⟩)
    · rw [if_pos q] at h; exact h
    · obtain rfl : c2 = T p := by omega
      obtain ⟨i1, i2⟩ := isP_of hP.1 p1 pe
      have hac := rl_ac (fr := fr) (nx := nx) hP p1
      have hk := (hP.1.2.1 p p2).1
      have e0 : c (T p) 0 = m 2 p := ((hP.2.2.1 p p1).1).2.2.2.2.1
      rw [if_neg (fun z => z i1), i2, n_cl hn] at h
      refine ⟨kd_z hac (by decide), ?_⟩
      rw [e0, hk.1]
      refine t_148 (d := d) hk.2 y ⟨fun z => ?_, fun z => ⟨kd_z hac (by decide), ?_⟩⟩
      · rw [if_neg (fun w => by rw [w] at z; exact absurd z (by decide))] at h; exact h
      · rw [if_pos (by
          cases hh : unF 3 (mKd m p) n with
          | true => rfl
          | false => rw [hh] at z; exact absurd rfl z)] at h
        rw [e0]; exact h
  · rw [if_pos (fun w => y (n_lt7.mpr w.2))] at h; exact h
theorem t_153 {K : Int64 → zI → zJ → Prop} {a b : Int32} (hT : rTap c lc m lm) (h : K (aRead m lm a b) c lc) : TL (d + 2) 153 [.ref 0, .int a, .int b] (zCS ++ X) (zCR fr nx P) c lc K := by
  unfold aRead at h
  refine TL_of (B_153 _ _ (t_124 (d := d) ?_))
  by_cases q : 0 ≤ a ∧ a ≤ 5
  · rw [if_pos q]
    rw [if_neg (fun w => w q)] at h
    obtain ⟨t, t6, ea, ec⟩ := n_tape q.1 q.2
    obtain ⟨c1, c2, c3⟩ := hT.1 t t6
    obtain ⟨i1, i2, i3⟩ := hT.2 t t6
    obtain ⟨z1, z2, z3⟩ := tp_row (X := X) (fr := fr) (nx := nx) (P := P) t6
    rw [ec] at h
    subst ea
    refine ⟨fun z => absurd z one_ne, fun _ => t_125 (d := d) t6 i3 (by rw [c2]; exact i2) ?_⟩
    rw [Int32.toInt_toInt64]
    by_cases r : 0 ≤ b ∧ b.toNatClampNeg < mSz m t
    · rw [if_pos r] at h
      obtain ⟨n, hn, rfl⟩ := n_nat (Int32.not_lt.mpr r.1)
      rw [n_cl hn] at r h
      rw [if_pos (by rw [n_int hn]; omega)]
      refine ⟨fun z => absurd z one_ne, fun _ => ⟨n_zin t6 (by decide), ?_⟩⟩
      rw [n_cl (show t < 2147483648 by omega), z1]
      refine ⟨by omega, fun c5 e5 => ?_⟩
      obtain rfl : c5 = 36 + t := by omega
      rw [z2, z3, n_cl hn, c3 n (by omega)]
      exact ⟨rfl, n_zin (by omega) (by decide), h⟩
    · rw [if_neg r] at h
      rw [if_neg (fun w => r ⟨by rw [Int32.le_iff_toInt_le]; exact w.1, by
        obtain ⟨n, hn, rfl⟩ := n_nat (x := b) (by rw [Int32.lt_iff_toInt_lt]; exact Int.not_lt.mpr w.1)
        rw [n_int hn] at w
        rw [n_cl hn]; omega⟩)]
      exact ⟨fun _ => h, fun z => absurd rfl z⟩
  · rw [if_neg q]
    rw [if_pos q] at h
    exact ⟨fun _ => h, fun z => absurd rfl z⟩
/-- act -/
theorem t_133 {K : Int32 → zI → zJ → Prop} {a b x : Int32} (hP : rPl T X P c m) (h : ∀ c', mA 34 c c' → cTr c' (aAct m a b x).2 → K (aAct m a b x).1 c' lc) : TI (d + 9) 133 [.ref 0, .int a, .int b, .int x] (zCS ++ X) (zCR fr nx P) c lc K := by
  unfold aAct at h
  have A0 : mA 34 c (zu c 34 0 0) := mA.put mA.rfl
  have T0 : cTr (zu c 34 0 0) [] := ⟨zu_eq, fun j hj => absurd hj (Nat.not_lt_zero _)⟩
  have hP0 : rPl T X P (zu c 34 0 0) m := rPl_eq (zu_nc (by decide)) (fun y k hy => zu_nc (by omega)) rfl (fun _ _ _ _ => rfl) hP
  refine TI_of (B_133 _ _ _ ⟨by decide, t_63r (d := d + 7) hP0 (fun q => ⟨fun _ => ?_, fun c2 e => absurd e (by omega)⟩) (fun p p1 p2 pe => ⟨fun e => absurd e (by omega), fun c2 e => ?_⟩)⟩)
  · rw [if_pos q] at h; exact h _ A0 T0
  · obtain rfl : c2 = T p := by omega
    obtain ⟨i1, i2⟩ := isP_of hP.1 p1 pe
    have hac := rl_ac (fr := fr) (nx := nx) hP0 p1
    have hk := hac.2.2.1
    rw [if_neg (fun z => z i1), i2] at h
    refine ⟨fun y => ?_, fun y => ⟨fun z => ⟨fun w => ?_, fun w => ⟨fun v => ?_, fun v => ?_⟩⟩, fun z => ?_⟩⟩
    · rw [if_pos (fun w => absurd y (Int32.not_lt.mpr w.1))] at h; exact h _ A0 T0
    · rw [if_neg (fun u => u ⟨Int32.not_lt.mp y, n_lt3.mp z⟩), if_pos w, pe] at h
      refine b_vir hac rfl (kd_tak _ hk).2.1 (kd_tak _ hk).2.2 (t_tak (d := d + 5) hac T0 (by decide) (fun c' f _ T' => ?_))
      exact h c' (mA_tr A0 f) T'
    · rw [if_neg (fun u => u ⟨Int32.not_lt.mp y, n_lt3.mp z⟩), if_neg w, if_pos v, pe] at h
      refine b_vir hac rfl (kd_row _ hk).2.1 (kd_row _ hk).2.2 (t_row (d := d + 2) hac T0 (by decide) (fun c' f _ T' => ?_))
      exact h c' (mA_tr A0 f) T'
    · rw [if_neg (fun u => u ⟨Int32.not_lt.mp y, n_lt3.mp z⟩), if_neg w, if_neg v, pe] at h
      refine b_vir hac rfl (kd_tel _ hk).1 (kd_tel _ hk).2 (t_tel (d := d) hac T0 (by decide) (fun c' f _ T' => ?_))
      exact h c' (mA_tr A0 f) T'
    · rw [if_pos (fun w => z (n_lt3.mpr w.2))] at h; exact h _ A0 T0
end SMALLC
section SMALLM
variable {d : Nat} {m : zI} {lm : zJ}
theorem t_250 {K : Int32 → zI → zJ → Prop} {a : Int32} {l : List Nat} (hl : l.length ≤ 1000) (hT : mTrc m l) (h : K (aTrace l a) m lm) : TI (d + 1) 250 [.ref 0, .int a] zMS zMR m lm K := by
  unfold aTrace at h
  refine TI_of (B_250 _ ⟨fun x => ?_, fun x => ⟨fun y => ?_, fun y => ⟨fun z => ?_, fun z => ?_⟩⟩⟩)
  · rw [if_neg (fun w => absurd x (Int32.not_lt.mpr w.1))] at h; exact h
  · obtain ⟨n, hn, rfl⟩ := n_nat x
    rw [hT.1] at y
    have := (n_le (by omega) hn).mp y
    rw [n_cl hn, if_neg (by omega)] at h; exact h
  · obtain ⟨n, hn, rfl⟩ := n_nat x
    have z := (n_le (a := 20) (by decide) hn).mp z
    rw [n_cl hn, if_neg (by omega)] at h; exact h
  · obtain ⟨n, hn, rfl⟩ := n_nat x
    rw [hT.1] at y
    have y : n < l.length := Nat.lt_of_not_le (fun w => y ((n_le (by omega) hn).mpr w))
    have z : n < 20 := Nat.lt_of_not_le (fun w => z ((n_le (a := 20) (by decide) hn).mpr w))
    rw [n_cl hn, if_pos ⟨Int32.not_lt.mp x, y, z⟩] at h
    rw [n_cl hn, hT.2 n y z]
    exact ⟨n_zin z (by decide), h⟩
theorem t_251_18 {Q : zQ} {p b : Nat} (hp : p < 10) (hb : b < 7) (h1 : unF 3 (mKd m p) b = true → Q (some (.int (m 2 p))) m lm) (h0 : unF 3 (mKd m p) b = false → Q (some (.int (-12))) m lm) : ∀ (f k : Nat), k < 7 → (k = 0 ∧ 1 ≤ f ∨ k < 4 ∧ 2 ≤ f ∨ 3 ≤ f) → unF f k b = unF 3 (mKd m p) b → Wf (d + 2) 251 18 [.ref 0, .int (Int32.ofNat p), .int (Int32.ofNat b), .int (Int32.ofNat k)] [] zMS zMR m lm Q
  | 0, k, hk, hf, e => by omega
  | f + 1, k, hk, hf, e => by
    have ne : Int32.ofNat k ≠ -1 := n_ne1 (by omega)
    rw [unF] at e
    refine B_251_18 _ _ _ ⟨fun x => ⟨fun _ => ⟨n_zin hp (by decide), ?_⟩, fun y => absurd ne y⟩, fun x => ⟨fun y => absurd y ne, fun _ => ?_⟩⟩
    · rw [if_pos ((n_eq (by omega) (by omega)).mp x)] at e
      rw [n_cl (by omega)]
      exact h1 e.symm
    · rw [if_neg (fun z => x (by rw [z]))] at e
      by_cases k0 : k = 0
      · rw [if_pos k0] at e
        subst k0
        refine TI_of (B_247 _ ⟨fun y => absurd rfl y, fun _ => ?_⟩)
        have fin : Wf (d + 2) 251 18 [.ref 0, .int (Int32.ofNat p), .int (Int32.ofNat b), .int (-1)] [] zMS zMR m lm Q := by
          refine B_251_18 _ _ _ ⟨fun z => absurd z.symm (n_ne1 (by omega)), fun _ => ⟨fun _ => ⟨fun z => absurd rfl z, fun _ => h0 e.symm⟩, fun z => absurd rfl z⟩⟩
        exact fin
      · rw [if_neg k0] at e
        refine t_247 (d := d) (by omega) ?_
        exact t_251_18 hp hb h1 h0 f _ (by split <;> omega) (by split <;> omega) e
theorem t_251 {K : Int32 → zI → zJ → Prop} {a b : Int32} (hP : iPl m) (h : K (aTaken m a b) m lm) : TI (d + 3) 251 [.ref 0, .int a, .int b] zMS zMR m lm K := by
  unfold aTaken at h
  refine TI_of (B_251 _ _ (t_157 (d := d + 1) ?_))
  by_cases q : 0 ≤ b ∧ b ≤ 6
  · rw [if_pos q]
    rw [if_neg (fun w => w q)] at h
    refine ⟨fun _ => t_209 (d := d) hP ?_, fun z => absurd one_ne z⟩
    by_cases r : mIsP m a
    · rw [if_pos r]
      rw [if_neg (fun w => w r)] at h
      obtain ⟨p, p1, p2, pe, pc⟩ := mIsP_nat hP r
      obtain ⟨n, hn, rfl⟩ := n_nat (Int32.not_lt.mpr q.1)
      have n7 := (n_le (b := 6) hn (by decide)).mp q.2
      rw [pc, n_cl hn] at h
      subst pe
      refine ⟨fun _ => ⟨n_zin p1 (by decide), ?_⟩, fun z => absurd one_ne z⟩
      rw [n_cl (show p < 2147483648 by omega), (hP.2.1 p p1).1.1]
      refine t_251_18 (d := d + 1) (b := n) p1 (by omega) (fun e => ?_) (fun e => ?_) 3 (mKd m p) (hP.2.1 p p1).1.2 (.inr (.inr (Nat.le_refl _))) rfl
      · rw [if_pos e] at h; exact h
      · rw [if_neg (by rw [e]; exact Bool.false_ne_true)] at h; exact h
    · rw [if_neg r]
      rw [if_pos r] at h
      exact ⟨fun z => absurd rfl z, fun _ => h⟩
  · rw [if_neg q]
    rw [if_pos q] at h
    exact ⟨fun z => absurd rfl z, fun _ => h⟩
theorem t_256 {K : Int64 → zI → zJ → Prop} {a b : Int32} (hT : iTp m) (h : K (aRead m lm a b) m lm) : TL (d + 3) 256 [.ref 0, .int a, .int b] zMS zMR m lm K := by
  unfold aRead at h
  refine TL_of (B_256 _ _ (t_241 (d := d) ?_))
  by_cases q : 0 ≤ a ∧ a ≤ 5
  · rw [if_pos q]
    rw [if_neg (fun w => w q)] at h
    obtain ⟨t, t6, ea, ec⟩ := n_tape q.1 q.2
    obtain ⟨i1, i2, i3⟩ := hT t t6
    rw [ec] at h
    subst ea
    refine ⟨fun z => absurd z one_ne, fun _ => ⟨n_zin t6 (by decide), ?_⟩⟩
    rw [n_cl (show t < 2147483648 by omega)]
    refine ⟨fun z => ?_, fun z => ⟨n_zin t6 (by decide), t_157 (d := d + 1) ?_⟩⟩
    · rcases i1 with ⟨_, w⟩ | ⟨s, _, w⟩
      · rw [w, if_neg (by omega)] at h; exact h
      · rw [w] at z; exact absurd z (n_ne1 (by omega))
    · rw [i2]
      by_cases r : 0 ≤ b ∧ b.toNatClampNeg < mSz m t
      · rw [if_pos r] at h
        obtain ⟨n, hn, rfl⟩ := n_nat (Int32.not_lt.mpr r.1)
        rw [n_cl hn] at r h
        rw [if_pos ⟨r.1, (n_lep (by omega)).mpr ((n_lt hn (by omega)).mpr r.2)⟩]
        refine ⟨fun z => absurd z one_ne, fun _ => ?_⟩
        rw [n_60, n_cl (show 60 * t + n < 2147483648 by omega)]
        exact ⟨n_zin (by omega) (by decide), h⟩
      · rw [if_neg r] at h
        rw [if_neg (fun w => r ⟨w.1, by
          obtain ⟨n, hn, rfl⟩ := n_nat (Int32.not_lt.mpr w.1)
          rw [n_cl hn]
          exact (n_lt hn (by omega)).mp ((n_lep (by omega)).mp w.2)⟩)]
        exact ⟨fun _ => h, fun z => absurd rfl z⟩
  · rw [if_neg q]
    rw [if_pos q] at h
    exact ⟨fun _ => h, fun z => absurd rfl z⟩
/-- what an act writes -/
def xAct (m m' : zI) : Prop := ∀ x k, ¬ (x = 0 ∧ (k = 22 ∨ k = 58)) → x ≠ 13 → m' x k = m x k
theorem t_244 {K : Int32 → zI → zJ → Prop} {a b x : Int32} (hP : iPl m) (h : ∀ m', xAct m m' → mTrc m' (aAct m a b x).2 → K (aAct m a b x).1 m' lm) : TI (d + 11) 244 [.ref 0, .int a, .int b, .int x] zMS zMR m lm K := by
  unfold aAct at h
  have X0 : xAct m (zu m 0 22 0) := fun y k z _ => zu_ne (by omega)
  have T0 : mTrc (zu m 0 22 0) [] := ⟨zu_eq, fun j hj => absurd hj (Nat.not_lt_zero _)⟩
  have hP0 : iPl (zu m 0 22 0) := iPl_eq (zu_nk (by decide)) (fun y k _ _ => zu_nc (by omega)) hP
  have eP : mIsP (zu m 0 22 0) a ↔ mIsP m a := by
    show (_ ∧ a < zu m 0 22 0 0 6) ↔ _
    rw [zu_nk (by decide)]
  refine TI_of (B_244 _ _ _ (t_209 (d := d + 8) hP0 ?_))
  by_cases r : mIsP m a
  · rw [if_pos (eP.mpr r)]
    rw [if_neg (fun w => w r)] at h
    obtain ⟨p, p1, p2, pe, pc⟩ := mIsP_nat hP r
    rw [pc] at h
    subst pe
    refine ⟨fun z => absurd z one_ne, fun _ => t_157 (d := d + 9) ?_⟩
    by_cases q : 0 ≤ b ∧ b ≤ 2
    · rw [if_pos q]
      rw [if_neg (fun w => w q)] at h
      have hk := (hP.2.1 p p1).1
      have X1 : ∀ m', xR (zu (zu m 0 22 0) 0 58 (Int32.ofNat p)) m' → xAct m m' := fun m' hx y k z w => by
        rw [hx y k (by omega) w, zu_ne (by omega), zu_ne (by omega)]
      have hA : mAct (zu (zu m 0 22 0) 0 58 (Int32.ofNat p)) p (mKd m p) (m 3 p) [] :=
        ⟨⟨by rw [zu_nk (by decide), zu_eq]; rfl, fun j hj => absurd hj (Nat.not_lt_zero _)⟩, zu_eq, p1, by rw [zu_nc (by decide), zu_nc (by decide)]; exact hk.1, by rw [zu_nc (by decide), zu_nc (by decide)], hk.2⟩
      have ek : zu m 0 22 0 2 p = Int32.ofNat (mKd m p) := by rw [zu_nc (by decide)]; exact hk.1
      refine ⟨fun _ => ⟨fun w => ⟨fun v => ⟨n_zin p1 (by decide), ?_⟩, fun v => ⟨n_zin p1 (by decide), ?_⟩⟩, fun w => ⟨n_zin p1 (by decide), ?_⟩⟩, fun z => absurd one_ne z⟩
      · rw [if_neg w, if_neg v] at h
        rw [n_cl (show p < 2147483648 by omega), ek]
        exact t_249 (d := d) hA (by decide) hk.2 (fun m' hx hA' => h m' (X1 m' hx) hA'.1)
      · rw [if_neg w, if_pos (Decidable.not_not.mp v)] at h
        rw [n_cl (show p < 2147483648 by omega), ek]
        exact t_248 (d := d + 3) hA (by decide) hk.2 (fun m' hx hA' => h m' (X1 m' hx) hA'.1)
      · rw [if_pos (Decidable.not_not.mp w)] at h
        rw [n_cl (show p < 2147483648 by omega), ek]
        exact t_245 (d := d + 6) hA (by decide) hk.2 (fun m' hx hA' => h m' (X1 m' hx) hA'.1)
    · rw [if_neg q]
      rw [if_pos q] at h
      exact ⟨fun z => absurd rfl z, fun _ => h _ X0 T0⟩
  · rw [if_neg (fun w => r (eP.mp w))]
    rw [if_pos r] at h
    exact ⟨fun _ => h _ X0 T0, fun z => absurd rfl z⟩
end SMALLM
theorem aAct_len (m : zI) (a b x : Int32) : (aAct m a b x).2.length ≤ 20 := by
  unfold aAct
  split
  · exact Nat.zero_le _
  split
  · exact Nat.zero_le _
  split
  · exact Nat.le_trans (aTak_len _ _ _ _) (by decide)
  split
  · exact Nat.le_trans (aRow_len _ _ _ _ _) (by decide)
  · exact Nat.le_trans (aTel_len _ _ _ _ _) (by decide)
theorem s_trace {a : Int32} : sI 146 250 [.int a] := by
  intro X fr nx P c lc m lm h
  obtain ⟨l, l20, h1, h2⟩ := h.2.2.2.1
  exact TG_I (t_146 (d := 39) (by omega) h1 (t_250 (d := 39) (by omega) h2 ⟨rfl, h⟩))
theorem s_taken {a b : Int32} : sI 147 251 [.int a, .int b] := by
  intro X fr nx P c lc m lm h
  have h' := h
  obtain ⟨_, _, _, _, _, N, T, _, _, i, _⟩ := h'
  exact TG_I (t_147 (d := 38) i (t_251 (d := 37) i.1 ⟨rfl, h⟩))
theorem s_read {a b : Int32} : sL 153 256 [.int a, .int b] := by
  intro X fr nx P c lc m lm h
  have hT := h.2.2.2.2.1
  exact t_153 (d := 38) hT (t_256 (d := 37) hT.2 ⟨rfl, h⟩)
theorem s_act {a b x : Int32} : sI 133 244 [.int a, .int b, .int x] := by
  intro X fr nx P c lc m lm h
  have h' := h
  obtain ⟨hf, hm, tx, ac, tp, N, T, f, g, i, j⟩ := h'
  refine TG_I (t_133 (d := 31) i (fun c' A T' => t_244 (d := 29) i.1 (fun m' Xm T2 => ⟨rfl, ?_⟩)))
  have C : ∀ y k, y ≠ 34 → c' y k = c y k := A
  have M0 : ∀ k, k ≠ 22 → k ≠ 58 → m' 0 k = m 0 k := fun k k1 k2 => Xm 0 k (by omega) (by decide)
  have M : ∀ y k, y ≠ 0 → y ≠ 13 → m' y k = m y k := fun y k y1 y2 => Xm y k (by omega) y2
  refine ⟨hf, iMm_0 (C _ _ (by decide)) (C _ _ (by decide)) hm, rTxt_eq (C _ _ (by decide)) (fun k => C _ _ (by decide)) (M0 _ (by decide) (by decide)) (fun k => M _ _ (by decide) (by decide)) (fun y k _ _ => M _ _ (by omega) (by omega)) tx, ⟨_, aAct_len m a b x, T', T2⟩, rTap_eq (fun k => C _ _ (by decide)) (fun k => C _ _ (by decide)) (fun _ _ _ _ => rfl) (fun k => M _ _ (by decide) (by decide)) (fun k => M _ _ (by decide) (by decide)) (fun _ => rfl) tp, N, T, ?_, ?_, rPl_eq (C _ _ (by decide)) (fun y k hy => C _ _ (by omega)) (M0 _ (by decide) (by decide)) (fun y k _ _ => M _ _ (by omega) (by omega)) i, ?_⟩
  · obtain ⟨f1, f2, f3⟩ := f
    refine ⟨cFul_eq (fun k => C _ _ (by decide)) (fun k _ => C _ _ (by decide)) (fun k _ => C _ _ (by decide)) (fun k hk => M0 _ (by omega) (by omega)) (fun k _ => M _ _ (by decide) (by decide)) (fun k _ => M _ _ (by decide) (by decide)) f1, iNw_eq (fun k hk => M0 _ (by omega) (by omega)) (fun k _ => M _ _ (by decide) (by decide)) (fun k _ => M _ _ (by decide) (by decide)) f2, ?_⟩
    unfold rHo
    rw [M0 13 (by decide) (by decide)]
    exact f3
  · obtain ⟨g1, g2, g3, g4, g5⟩ := g
    refine ⟨by rw [C _ _ (by decide)]; exact g1, by rw [M0 _ (by decide) (by decide)]; exact g2, g3, fun p hp => ?_, cPa_at (fun y k _ _ => C _ _ (by omega)) g5⟩
    obtain ⟨cs, w1, w2, w3⟩ := g4 p hp
    exact ⟨cs, w1, xTxt_eq (M _ _ (by decide) (by decide)) (fun y k _ _ _ _ => M _ _ (by omega) (by omega)) (fun k _ _ => M _ _ (by decide) (by decide)) w2, cPa_at (fun y k _ _ => C _ _ (by omega)) w3⟩
  · refine rImg_eq (Nat.le_refl _) (C _ _ (by decide)) (fun y k _ _ => C _ _ (by omega)) (fun p k hp _ _ => C _ _ ?_) (fun k hk => M0 _ (by omega) (by omega)) (fun k hk => M _ _ (by decide) (by decide)) (fun y k hy => M _ _ (by omega) (by omega)) (fun p => M _ _ (by decide) (by decide)) j
    have := ((i.2.2.1 p hp).1).2.1
    omega
