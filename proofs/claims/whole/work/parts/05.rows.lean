/-! Rows of the pure machine -/
theorem zex_succ {f d j i : Nat} {L st : List Value} {S : zS} {R : zR0} {mi : zI} {ml : zJ} {o : zO} (h : zex f d j i L st S R mi ml = some o) : zex (f + 1) d j i L st S R mi ml = some o := by
  induction f generalizing d j i L st S R mi ml o with
  | zero => simp [zex] at h
  | succ f ih =>
    rw [zex] at h
    rw [zex]
    cases hC : (zC j)[i]? with
    | none => simp [hC] at h
    | some I =>
      simp only [hC] at h ⊢
      cases hs : zst I L st S R mi ml with
      | some q => obtain ⟨L1, st1, S1, R1, mi1, ml1⟩ := q; simp only [hs] at h ⊢; exact ih h
      | none =>
        simp only [hs] at h ⊢
        cases hj : zjp I i st with
        | some q => obtain ⟨i1, st1⟩ := q; simp only [hj] at h ⊢; exact ih h
        | none =>
          simp only [hj] at h ⊢
          cases hr : zrt (zM j).2.2 I st with
          | some r => simp only [hr] at h ⊢; exact h
          | none =>
            simp only [hr] at h ⊢
            cases hv : zsite I with
            | none => simp [hv] at h
            | some v =>
              cases d with
              | zero => simp [hv] at h
              | succ d =>
                simp only [hv] at h ⊢
                split at h
                · rename_i hg
                  rw [if_pos hg]
                  cases ht : ztg S v (st.take (zV v).1).reverse with
                  | none => simp [ht] at h
                  | some j1 =>
                    simp only [ht] at h ⊢
                    split at h
                    · rename_i hz
                      rw [if_pos hz]
                      cases hc : zex f d j1 0 (zent (st.take (zV v).1).reverse (zM j1).1) [] S R mi ml with
                      | none => simp [hc] at h
                      | some q =>
                        obtain ⟨r, S1, R1, mi1, ml1⟩ := q
                        rw [hc] at h
                        rw [ih hc]
                        exact ih h
                    · simp at h
                · simp at h
theorem zex_mono {f g d j i : Nat} {L st : List Value} {S : zS} {R : zR0} {mi : zI} {ml : zJ} {o : zO} (hg : f ≤ g) (h : zex f d j i L st S R mi ml = some o) : zex g d j i L st S R mi ml = some o := by
  induction hg with
  | refl => exact h
  | step _ ih => exact zex_succ ih
section ROWS
variable {d j i : Nat} {L st : List Value} {S : zS} {R : zR0} {mi : zI} {ml : zJ} {Q : Option Value → zS → zR0 → zI → zJ → Prop} {I : Instr}
theorem Wz.mono {Q' : Option Value → zS → zR0 → zI → zJ → Prop} (h : Wz d j i L st S R mi ml Q) (k : ∀ r S1 R1 mi1 ml1, Q r S1 R1 mi1 ml1 → Q' r S1 R1 mi1 ml1) : Wz d j i L st S R mi ml Q' := by
  obtain ⟨f, r, S1, R1, mi1, ml1, e, q⟩ := h
  exact ⟨f, r, S1, R1, mi1, ml1, e, k _ _ _ _ _ q⟩
theorem Tz.mono {args : List Value} {Q' : Option Value → zS → zR0 → zI → zJ → Prop} (h : Tz d j args S R mi ml Q) (k : ∀ r S1 R1 mi1 ml1, Q r S1 R1 mi1 ml1 → Q' r S1 R1 mi1 ml1) : Tz d j args S R mi ml Q' := Wz.mono h k
/-- a step that only goes on -/
theorem r_st {L1 st1 : List Value} {S1 : zS} {R1 : zR0} {mi1 : zI} {ml1 : zJ} (hI : (zC j)[i]? = some I) (hs : zst I L st S R mi ml = some (L1, st1, S1, R1, mi1, ml1)) (k : Wz d j (i + 1) L1 st1 S1 R1 mi1 ml1 Q) : Wz d j i L st S R mi ml Q := by
  obtain ⟨f, r, S2, R2, mi2, ml2, e, q⟩ := k
  exact ⟨f + 1, r, S2, R2, mi2, ml2, by rw [zex]; simp only [hI, hs]; exact e, q⟩
theorem r_jp {i1 : Nat} {st1 : List Value} (hI : (zC j)[i]? = some I) (hs : zst I L st S R mi ml = none) (hj : zjp I i st = some (i1, st1)) (k : Wz d j i1 L st1 S R mi ml Q) : Wz d j i L st S R mi ml Q := by
  obtain ⟨f, r, S2, R2, mi2, ml2, e, q⟩ := k
  exact ⟨f + 1, r, S2, R2, mi2, ml2, by rw [zex]; simp only [hI, hs, hj]; exact e, q⟩
theorem r_goto {t : Int} {t1 : Nat} (hI : (zC j)[i]? = some (.goto t)) (ht : t.toNat = t1) (k : Wz d j t1 L st S R mi ml Q) : Wz d j i L st S R mi ml Q := r_jp hI rfl (by rw [← ht]; rfl) k
theorem r_if {c : ClassFile.Cond} {a : Int32} {t : Int} {t1 : Nat} (hI : (zC j)[i]? = some (.ifCond c t)) (ht : t.toNat = t1) (k : (zcond c a 0 → Wz d j t1 L st S R mi ml Q) ∧ (¬ zcond c a 0 → Wz d j (i + 1) L st S R mi ml Q)) : Wz d j i L (.int a :: st) S R mi ml Q := by
  subst ht
  by_cases h : zcond c a 0
  · exact r_jp (i1 := t.toNat) hI rfl (by show some (if zcondB c a 0 = true then t.toNat else i + 1, st) = _; rw [if_pos ((zcondB_iff _ _ _).mpr h)]) (k.1 h)
  · exact r_jp (i1 := i + 1) hI rfl (by show some (if zcondB c a 0 = true then t.toNat else i + 1, st) = _; rw [if_neg (fun q => h ((zcondB_iff _ _ _).mp q))]) (k.2 h)
theorem r_icmp {c : ClassFile.Cond} {a b : Int32} {t : Int} {t1 : Nat} (hI : (zC j)[i]? = some (.if_icmp c t)) (ht : t.toNat = t1) (k : (zcond c a b → Wz d j t1 L st S R mi ml Q) ∧ (¬ zcond c a b → Wz d j (i + 1) L st S R mi ml Q)) : Wz d j i L (.int b :: .int a :: st) S R mi ml Q := by
  subst ht
  by_cases h : zcond c a b
  · exact r_jp (i1 := t.toNat) hI rfl (by show some (if zcondB c a b = true then t.toNat else i + 1, st) = _; rw [if_pos ((zcondB_iff _ _ _).mpr h)]) (k.1 h)
  · exact r_jp (i1 := i + 1) hI rfl (by show some (if zcondB c a b = true then t.toNat else i + 1, st) = _; rw [if_neg (fun q => h ((zcondB_iff _ _ _).mp q))]) (k.2 h)
def zswF (a : Int32) (d : Int) (W : Nat → Prop) : List (Int × Int) → Prop
  | [] => W d.toNat
  | q :: l => (a = Int32.ofInt q.1 → W q.2.toNat) ∧ (¬ a = Int32.ofInt q.1 → zswF a d W l)
theorem zswF_of {a : Int32} {d : Int} {W : Nat → Prop} : ∀ {l : List (Int × Int)}, zswF a d W l → W (zsw a d l)
  | [], h => h
  | q :: l, h => by
    unfold zsw
    split
    · rename_i e; exact h.1 e
    · rename_i e; exact zswF_of (h.2 e)
theorem r_sw {a : Int32} {df : Int} {ps : Array (Int × Int)} (hI : (zC j)[i]? = some (.lookupswitch df ps)) (k : zswF a df (fun t => Wz d j t L st S R mi ml Q) ps.toList) : Wz d j i L (.int a :: st) S R mi ml Q :=
  r_jp hI rfl rfl (zswF_of k)
theorem r_ret {r : Option Value} (hI : (zC j)[i]? = some I) (hs : zst I L st S R mi ml = none) (hj : zjp I i st = none) (hr : zrt (zM j).2.2 I st = some r) (k : Q r S R mi ml) : Wz d j i L st S R mi ml Q :=
  ⟨1, r, S, R, mi, ml, by rw [zex]; simp only [hI, hs, hj, hr], k⟩
theorem r_iret {a : Int32} (hI : (zC j)[i]? = some .ireturn) (hn : narrow (zrty (zM j).2.2) (.int a) = .int a) (k : Q (some (.int a)) S R mi ml) : Wz d j i L [.int a] S R mi ml Q :=
  r_ret hI rfl rfl (by show (if narrow (zrty (zM j).2.2) (Value.int a) = Value.int a then some (some (Value.int a)) else none) = _; rw [if_pos hn]) k
theorem z_nar_bool {a : Int32} (h : a = 0 ∨ a = 1) : narrow .boolean (.int a) = .int a := by
  rcases h with rfl | rfl <;> decide +kernel
theorem r_call {v j1 n : Nat} {args rest : List Value} (hI : (zC j)[i]? = some I) (hs : zst I L st S R mi ml = none) (hj : zjp I i st = none) (hr : zrt (zM j).2.2 I st = none) (hv : zsite I = some v) (hn : (zV v).1 = n) (hle : n ≤ st.length) (ha : (st.take n).reverse = args) (hd : st.drop n = rest)
    (ht : ztg S v args = some j1) (hc : (rest.map fun v => v.category).sum ≤ 8) (hz : (zarg args).length ≤ (zM j1).1) (k : Tz d j1 args S R mi ml (fun r S1 R1 mi1 ml1 => Wz (d + 1) j (i + 1) L (r.toList ++ rest) S1 R1 mi1 ml1 Q)) : Wz (d + 1) j i L st S R mi ml Q := by
  subst hn; subst ha; subst hd
  obtain ⟨f, r, S1, R1, mi1, ml1, e1, f2, r2, S2, R2, mi2, ml2, e2, q⟩ := k
  refine ⟨max f f2 + 1, r2, S2, R2, mi2, ml2, ?_, q⟩
  rw [zex]
  simp only [hI, hs, hj, hr, hv, hle, hc, ht, hz, and_self, if_true]
  rw [zex_mono (Nat.le_max_left f f2) e1]
  exact zex_mono (Nat.le_max_right f f2) e2
end ROWS
/-- calls by what they answer; S and R stay -/
def TI (d j : Nat) (args : List Value) (S : zS) (R : zR0) (mi : zI) (ml : zJ) (K : Int32 → zI → zJ → Prop) : Prop := Tz d j args S R mi ml (fun r S1 R1 mi1 ml1 => ∃ v, r = some (.int v) ∧ S1 = S ∧ R1 = R ∧ K v mi1 ml1)
def TL (d j : Nat) (args : List Value) (S : zS) (R : zR0) (mi : zI) (ml : zJ) (K : Int64 → zI → zJ → Prop) : Prop := Tz d j args S R mi ml (fun r S1 R1 mi1 ml1 => ∃ v, r = some (.long v) ∧ S1 = S ∧ R1 = R ∧ K v mi1 ml1)
def TV (d j : Nat) (args : List Value) (S : zS) (R : zR0) (mi : zI) (ml : zJ) (K : zI → zJ → Prop) : Prop := Tz d j args S R mi ml (fun r S1 R1 mi1 ml1 => r = none ∧ S1 = S ∧ R1 = R ∧ K mi1 ml1)
def TA (d j : Nat) (args : List Value) (S : zS) (R : zR0) (mi : zI) (ml : zJ) (K : Nat → zI → zJ → Prop) : Prop := Tz d j args S R mi ml (fun r S1 R1 mi1 ml1 => ∃ v, r = some (zrv v) ∧ S1 = S ∧ R1 = R ∧ K v mi1 ml1)
theorem TI.mono {d j : Nat} {args : List Value} {S : zS} {R : zR0} {mi : zI} {ml : zJ} {K K' : Int32 → zI → zJ → Prop} (h : TI d j args S R mi ml K) (k : ∀ v mi1 ml1, K v mi1 ml1 → K' v mi1 ml1) : TI d j args S R mi ml K' := Tz.mono h (fun _ _ _ _ _ ⟨v, a, b, c, e⟩ => ⟨v, a, b, c, k _ _ _ e⟩)
theorem TL.mono {d j : Nat} {args : List Value} {S : zS} {R : zR0} {mi : zI} {ml : zJ} {K K' : Int64 → zI → zJ → Prop} (h : TL d j args S R mi ml K) (k : ∀ v mi1 ml1, K v mi1 ml1 → K' v mi1 ml1) : TL d j args S R mi ml K' := Tz.mono h (fun _ _ _ _ _ ⟨v, a, b, c, e⟩ => ⟨v, a, b, c, k _ _ _ e⟩)
theorem TV.mono {d j : Nat} {args : List Value} {S : zS} {R : zR0} {mi : zI} {ml : zJ} {K K' : zI → zJ → Prop} (h : TV d j args S R mi ml K) (k : ∀ mi1 ml1, K mi1 ml1 → K' mi1 ml1) : TV d j args S R mi ml K' := Tz.mono h (fun _ _ _ _ _ ⟨a, b, c, e⟩ => ⟨a, b, c, k _ _ e⟩)
theorem TA.mono {d j : Nat} {args : List Value} {S : zS} {R : zR0} {mi : zI} {ml : zJ} {K K' : Nat → zI → zJ → Prop} (h : TA d j args S R mi ml K) (k : ∀ v mi1 ml1, K v mi1 ml1 → K' v mi1 ml1) : TA d j args S R mi ml K' := Tz.mono h (fun _ _ _ _ _ ⟨v, a, b, c, e⟩ => ⟨v, a, b, c, k _ _ _ e⟩)
