-- @after: 00.privs 01.names 02.code 03.tabs 04.mach 05.rows
/-! more rows: what a program lays -/
def zrun : Nat → List Instr → Nat → List Value → List Value → zS → zR0 → zI → zJ → Option (Nat × zT)
  | 0, _, i, L, st, S, R, mi, ml => some (i, L, st, S, R, mi, ml)
  | n + 1, C, i, L, st, S, R, mi, ml => match C[i]? with
    | none => none
    | some I => match zst I L st S R mi ml with
      | none => none
      | some (L1, st1, S1, R1, mi1, ml1) => zrun n C (i + 1) L1 st1 S1 R1 mi1 ml1
section ROWS2
variable {d j i : Nat} {L st : List Value} {S : zS} {R : zR0} {mi : zI} {ml : zJ} {Q : Option Value → zS → zR0 → zI → zJ → Prop} {I : Instr} {C : List Instr}
theorem r_run (n : Nat) {i1 : Nat} {L1 st1 : List Value} {S1 : zS} {R1 : zR0} {mi1 : zI} {ml1 : zJ} (hC : zC j = C) (h : zrun n C i L st S R mi ml = some (i1, L1, st1, S1, R1, mi1, ml1)) (k : Wz d j i1 L1 st1 S1 R1 mi1 ml1 Q) : Wz d j i L st S R mi ml Q := by
  induction n generalizing i L st S R mi ml with
  | zero => cases h; exact k
  | succ n ih =>
    rw [zrun] at h
    cases hI : C[i]? with
    | none => simp [hI] at h
    | some I =>
      simp only [hI] at h
      cases hs : zst I L st S R mi ml with
      | none => simp [hs] at h
      | some q =>
        obtain ⟨L2, st2, S2, R2, mi2, ml2⟩ := q
        simp only [hs] at h
        exact r_st (by rw [hC]; exact hI) hs (ih h)
theorem r_at (hC : zC j = C) (h : C[i]? = some I) : (zC j)[i]? = some I := by rw [hC]; exact h
theorem r_iald {c n : Nat} {x : Int32} (hI : (zC j)[i]? = some .iaload) (hS : S[c]? = some (100, n)) (hin : zin x n = true) (k : Wz d j (i + 1) L (.int (mi c x.toNatClampNeg) :: st) S R mi ml Q) : Wz d j i L (.int x :: .ref c :: st) S R mi ml Q :=
  r_st hI (by simp only [zst, zald, hS]; rw [if_pos ⟨rfl, hin⟩]) k
theorem r_bald {c n : Nat} {x : Int32} (hI : (zC j)[i]? = some .baload) (hS : S[c]? = some (102, n) ∨ S[c]? = some (103, n)) (hin : zin x n = true) (k : Wz d j (i + 1) L (.int (mi c x.toNatClampNeg) :: st) S R mi ml Q) : Wz d j i L (.int x :: .ref c :: st) S R mi ml Q := by
  rcases hS with hS | hS
  · exact r_st hI (by simp only [zst, zald, hS]; rw [if_pos ⟨rfl, hin⟩]) k
  · exact r_st hI (by simp only [zst, zald, hS]; rw [if_pos ⟨rfl, hin⟩]) k
theorem r_lald {c n : Nat} {x : Int32} (hI : (zC j)[i]? = some .laload) (hS : S[c]? = some (101, n)) (hin : zin x n = true) (k : Wz d j (i + 1) L (.long (ml c x.toNatClampNeg) :: st) S R mi ml Q) : Wz d j i L (.int x :: .ref c :: st) S R mi ml Q :=
  r_st hI (by simp only [zst, zald, hS]; rw [if_pos ⟨rfl, hin⟩]) k
theorem r_aald {c kd n v : Nat} {x : Int32} (hI : (zC j)[i]? = some .aaload) (hS : S[c]? = some (kd, n)) (hk : kd = 104 ∨ kd = 105 ∨ kd = 106 ∨ kd = 107 ∨ kd = 108) (hin : zin x n = true) (hv : R c x.toNatClampNeg = v) (k : Wz d j (i + 1) L (zrv v :: st) S R mi ml Q) : Wz d j i L (.int x :: .ref c :: st) S R mi ml Q := by
  subst hv
  rcases hk with rfl | rfl | rfl | rfl | rfl <;> exact r_st hI (by simp only [zst, zald, hS]; rw [if_pos ⟨rfl, hin⟩]) k
/-- a static table, or a text's bytes -/
theorem r_tald {n : Nat} {x : Int32} (hI : (zC j)[i]? = some .iaload) (hn : 1 ≤ n ∧ n ≤ 3) (hin : zin x (zTab n).length = true) (k : Wz d j (i + 1) L (.int ((zTab n).getD x.toNatClampNeg 0) :: st) S R mi ml Q) : Wz d j i L (.int x :: .retAddr n :: st) S R mi ml Q :=
  r_st hI (by simp only [zst, zald]; rw [if_pos ⟨Or.inl ⟨rfl, hn⟩, hin⟩]) k
theorem r_bytes {n : Nat} {x : Int32} (hI : (zC j)[i]? = some .baload) (hn : 20 ≤ n ∧ n ≤ 26) (hin : zin x (zTab n).length = true) (k : Wz d j (i + 1) L (.int ((zTab n).getD x.toNatClampNeg 0) :: st) S R mi ml Q) : Wz d j i L (.int x :: .retAddr n :: st) S R mi ml Q :=
  r_st hI (by simp only [zst, zald]; rw [if_pos ⟨Or.inr ⟨rfl, hn⟩, hin⟩]) k
theorem r_iast {c n : Nat} {x v : Int32} (hI : (zC j)[i]? = some .iastore) (hS : S[c]? = some (100, n)) (hin : zin x n = true) (k : Wz d j (i + 1) L st S R (zu mi c x.toNatClampNeg v) ml Q) : Wz d j i L (.int v :: .int x :: .ref c :: st) S R mi ml Q :=
  r_st hI (by simp only [zst, zast, hS]; rw [if_pos ⟨rfl, hin⟩]) k
theorem r_bast {c n : Nat} {x v : Int32} (hI : (zC j)[i]? = some .bastore) (hS : S[c]? = some (102, n)) (hin : zin x n = true) (k : Wz d j (i + 1) L st S R (zu mi c x.toNatClampNeg v.toInt8.toInt32) ml Q) : Wz d j i L (.int v :: .int x :: .ref c :: st) S R mi ml Q :=
  r_st hI (by simp only [zst, zast, hS]; rw [if_pos ⟨rfl, hin⟩]) k
theorem r_zast {c n : Nat} {x v : Int32} (hI : (zC j)[i]? = some .bastore) (hS : S[c]? = some (103, n)) (hin : zin x n = true) (hv : v = 0 ∨ v = 1) (k : Wz d j (i + 1) L st S R (zu mi c x.toNatClampNeg v) ml Q) : Wz d j i L (.int v :: .int x :: .ref c :: st) S R mi ml Q := by
  have e : v &&& 1 = v := by rcases hv with rfl | rfl <;> decide
  refine r_st hI (mi1 := zu mi c x.toNatClampNeg (v &&& 1)) (by simp only [zst, zast, hS]; rw [if_pos ⟨rfl, hin⟩]) ?_
  rw [e]; exact k
theorem r_last {c n : Nat} {x : Int32} {v : Int64} (hI : (zC j)[i]? = some .lastore) (hS : S[c]? = some (101, n)) (hin : zin x n = true) (k : Wz d j (i + 1) L st S R mi (zu ml c x.toNatClampNeg v) Q) : Wz d j i L (.long v :: .int x :: .ref c :: st) S R mi ml Q :=
  r_st hI (by simp only [zst, zast, hS]; rw [if_pos ⟨rfl, hin⟩]) k
theorem r_idiv {a b : Int32} (hI : (zC j)[i]? = some .idiv) (hb : ¬ b = 0) (k : Wz d j (i + 1) L (.int (a / b) :: st) S R mi ml Q) : Wz d j i L (.int b :: .int a :: st) S R mi ml Q :=
  r_st hI (by simp only [zst]; rw [if_neg hb]) k
theorem r_irem {a b : Int32} (hI : (zC j)[i]? = some .irem) (hb : ¬ b = 0) (k : Wz d j (i + 1) L (.int (a % b) :: st) S R mi ml Q) : Wz d j i L (.int b :: .int a :: st) S R mi ml Q :=
  r_st hI (by simp only [zst]; rw [if_neg hb]) k
theorem r_ldiv {a b : Int64} (hI : (zC j)[i]? = some .ldiv) (hb : ¬ b = 0) (k : Wz d j (i + 1) L (.long (a / b) :: st) S R mi ml Q) : Wz d j i L (.long b :: .long a :: st) S R mi ml Q :=
  r_st hI (by simp only [zst]; rw [if_neg hb]) k
theorem r_lrem {a b : Int64} (hI : (zC j)[i]? = some .lrem) (hb : ¬ b = 0) (k : Wz d j (i + 1) L (.long (a % b) :: st) S R mi ml Q) : Wz d j i L (.long b :: .long a :: st) S R mi ml Q :=
  r_st hI (by simp only [zst]; rw [if_neg hb]) k
/-- a flag's field -/
theorem r_zput {c f ci n : Nat} {x : Int32} (hI : (zC j)[i]? = some (.putfield f)) (hS : S[c]? = some (ci, n)) (hc : (zF f).1.contains ci = true) (hk : (zF f).2.1 < n) (ht : (zF f).2.2 = 3) (hx : x = 0 ∨ x = 1) (k : Wz d j (i + 1) L st S R (zu mi c (zF f).2.1 x) ml Q) : Wz d j i L (.int x :: .ref c :: st) S R mi ml Q :=
  r_st hI (by simp only [zst, zput, hS, ht]; rw [if_pos ⟨hc, hk⟩, if_pos hx]) k
theorem r_getI {c f ci n : Nat} (hI : (zC j)[i]? = some (.getfield f)) (hS : S[c]? = some (ci, n)) (hc : (zF f).1.contains ci = true) (hk : (zF f).2.1 < n) (ht : (zF f).2.2 = 0 ∨ (zF f).2.2 = 3) (k : Wz d j (i + 1) L (.int (mi c (zF f).2.1) :: st) S R mi ml Q) : Wz d j i L (.ref c :: st) S R mi ml Q := by
  rcases ht with ht | ht <;> exact r_st hI (by simp only [zst, zget, hS, ht]; rw [if_pos ⟨hc, hk⟩]) k
theorem r_getJ {c f ci n : Nat} (hI : (zC j)[i]? = some (.getfield f)) (hS : S[c]? = some (ci, n)) (hc : (zF f).1.contains ci = true) (hk : (zF f).2.1 < n) (ht : (zF f).2.2 = 1) (k : Wz d j (i + 1) L (.long (ml c (zF f).2.1) :: st) S R mi ml Q) : Wz d j i L (.ref c :: st) S R mi ml Q :=
  r_st hI (by simp only [zst, zget, hS, ht]; rw [if_pos ⟨hc, hk⟩]) k
theorem r_getR {c f ci n v : Nat} (hI : (zC j)[i]? = some (.getfield f)) (hS : S[c]? = some (ci, n)) (hc : (zF f).1.contains ci = true) (hk : (zF f).2.1 < n) (ht : (zF f).2.2 = 2) (hv : R c (zF f).2.1 = v) (k : Wz d j (i + 1) L (zrv v :: st) S R mi ml Q) : Wz d j i L (.ref c :: st) S R mi ml Q := by
  subst hv
  exact r_st hI (by simp only [zst, zget, hS, ht]; rw [if_pos ⟨hc, hk⟩]) k
theorem r_putI {c f ci n : Nat} {x : Int32} (hI : (zC j)[i]? = some (.putfield f)) (hS : S[c]? = some (ci, n)) (hc : (zF f).1.contains ci = true) (hk : (zF f).2.1 < n) (ht : (zF f).2.2 = 0) (k : Wz d j (i + 1) L st S R (zu mi c (zF f).2.1 x) ml Q) : Wz d j i L (.int x :: .ref c :: st) S R mi ml Q :=
  r_st hI (by simp only [zst, zput, hS, ht]; rw [if_pos ⟨hc, hk⟩]) k
theorem r_putR {c f ci n v : Nat} (hI : (zC j)[i]? = some (.putfield f)) (hS : S[c]? = some (ci, n)) (hc : (zF f).1.contains ci = true) (hk : (zF f).2.1 < n) (ht : (zF f).2.2 = 2) (k : Wz d j (i + 1) L st S (zu R c (zF f).2.1 (v + 1)) mi ml Q) : Wz d j i L (.ref v :: .ref c :: st) S R mi ml Q :=
  r_st hI (by simp only [zst, zput, hS, ht]; rw [if_pos ⟨hc, hk⟩]) k
theorem r_len {c kd n : Nat} {v : Int32} (hI : (zC j)[i]? = some .arraylength) (hS : S[c]? = some (kd, n)) (hk : 100 ≤ kd ∧ kd ≤ 108) (hv : Int32.ofNat n = v) (k : Wz d j (i + 1) L (.int v :: st) S R mi ml Q) : Wz d j i L (.ref c :: st) S R mi ml Q := by
  subst hv
  exact r_st hI (by simp only [zst, zalen, hS]; rw [if_pos hk]) k
theorem r_tlen {n : Nat} {v : Int32} (hI : (zC j)[i]? = some .arraylength) (hn : 1 ≤ n ∧ n ≤ 3 ∨ 20 ≤ n ∧ n ≤ 26) (hv : Int32.ofNat (zTab n).length = v) (k : Wz d j (i + 1) L (.int v :: st) S R mi ml Q) : Wz d j i L (.retAddr n :: st) S R mi ml Q := by
  subst hv
  exact r_st hI (by simp only [zst, zalen]; rw [if_pos hn]) k
/-- calls by what they answer -/
theorem r_callI {v j1 n : Nat} {args rest : List Value} (hI : (zC j)[i]? = some I) (hs : zst I L st S R mi ml = none) (hj : zjp I i st = none) (hr : zrt (zM j).2.2 I st = none) (hv : zsite I = some v) (hn : (zV v).1 = n) (hle : n ≤ st.length) (ha : (st.take n).reverse = args) (hd : st.drop n = rest)
    (ht : ztg S v args = some j1) (hc : (rest.map fun v => v.category).sum ≤ 8) (hz : (zarg args).length ≤ (zM j1).1) (k : TI d j1 args S R mi ml (fun v mi1 ml1 => Wz (d + 1) j (i + 1) L (.int v :: rest) S R mi1 ml1 Q)) : Wz (d + 1) j i L st S R mi ml Q :=
  r_call hI hs hj hr hv hn hle ha hd ht hc hz (Tz.mono k (fun r S1 R1 mi1 ml1 ⟨v, h1, h2, h3, h4⟩ => by subst h1; subst h2; subst h3; exact h4))
theorem r_callL {v j1 n : Nat} {args rest : List Value} (hI : (zC j)[i]? = some I) (hs : zst I L st S R mi ml = none) (hj : zjp I i st = none) (hr : zrt (zM j).2.2 I st = none) (hv : zsite I = some v) (hn : (zV v).1 = n) (hle : n ≤ st.length) (ha : (st.take n).reverse = args) (hd : st.drop n = rest)
    (ht : ztg S v args = some j1) (hc : (rest.map fun v => v.category).sum ≤ 8) (hz : (zarg args).length ≤ (zM j1).1) (k : TL d j1 args S R mi ml (fun v mi1 ml1 => Wz (d + 1) j (i + 1) L (.long v :: rest) S R mi1 ml1 Q)) : Wz (d + 1) j i L st S R mi ml Q :=
  r_call hI hs hj hr hv hn hle ha hd ht hc hz (Tz.mono k (fun r S1 R1 mi1 ml1 ⟨v, h1, h2, h3, h4⟩ => by subst h1; subst h2; subst h3; exact h4))
theorem r_callV {v j1 n : Nat} {args rest : List Value} (hI : (zC j)[i]? = some I) (hs : zst I L st S R mi ml = none) (hj : zjp I i st = none) (hr : zrt (zM j).2.2 I st = none) (hv : zsite I = some v) (hn : (zV v).1 = n) (hle : n ≤ st.length) (ha : (st.take n).reverse = args) (hd : st.drop n = rest)
    (ht : ztg S v args = some j1) (hc : (rest.map fun v => v.category).sum ≤ 8) (hz : (zarg args).length ≤ (zM j1).1) (k : TV d j1 args S R mi ml (fun mi1 ml1 => Wz (d + 1) j (i + 1) L rest S R mi1 ml1 Q)) : Wz (d + 1) j i L st S R mi ml Q :=
  r_call hI hs hj hr hv hn hle ha hd ht hc hz (Tz.mono k (fun r S1 R1 mi1 ml1 ⟨h1, h2, h3, h4⟩ => by subst h1; subst h2; subst h3; exact h4))
theorem r_callA {v j1 n : Nat} {args rest : List Value} (hI : (zC j)[i]? = some I) (hs : zst I L st S R mi ml = none) (hj : zjp I i st = none) (hr : zrt (zM j).2.2 I st = none) (hv : zsite I = some v) (hn : (zV v).1 = n) (hle : n ≤ st.length) (ha : (st.take n).reverse = args) (hd : st.drop n = rest)
    (ht : ztg S v args = some j1) (hc : (rest.map fun v => v.category).sum ≤ 8) (hz : (zarg args).length ≤ (zM j1).1) (k : TA d j1 args S R mi ml (fun v mi1 ml1 => Wz (d + 1) j (i + 1) L (zrv v :: rest) S R mi1 ml1 Q)) : Wz (d + 1) j i L st S R mi ml Q :=
  r_call hI hs hj hr hv hn hle ha hd ht hc hz (Tz.mono k (fun r S1 R1 mi1 ml1 ⟨v, h1, h2, h3, h4⟩ => by subst h1; subst h2; subst h3; exact h4))
end ROWS2
