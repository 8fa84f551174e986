/-! The class reads: clauses. -/
theorem wCl_ne {cs : List pCl} {x : pCl} (h : x.1 ≠ 4) : wCl (cs ++ [x]) = wCl cs := by
  unfold wCl
  rw [List.filter_append, List.filter_cons_of_neg (by simp [h]), List.filter_nil, List.append_nil]
theorem wCl_eq {cs : List pCl} {x : pCl} (h : x.1 = 4) : wCl (cs ++ [x]) = wCl cs ++ [x] := by
  unfold wCl
  rw [List.filter_append, List.filter_cons_of_pos (by simp [h]), List.filter_nil]
theorem wCl_le (cs : List pCl) : (wCl cs).length ≤ cs.length := List.length_filter_le _ _
theorem cBarB_ne {cs : List pCl} {x : pCl} (h : x.1 ≠ 3) (k : Nat) : cBarB (cs ++ [x]) k = cBarB cs k := by
  unfold cBarB
  rw [List.any_append]
  have : List.any [x] (fun c => decide (c.1 = 3) && sTrue (nmP k) c.2.2) = false := by simp [h]
  rw [this, Bool.or_false]
def iPB (t : Nat) (c : zI) (cs : List pCl) : Prop := cPa t c cs ∧ c t 5 = Int32.ofNat (aTk (wCl cs)).length
def fPa (t : Nat) (c c' : zI) : Prop := ∀ x y, ¬ (x = 25 ∧ (y = 2 ∨ y = 3)) → x ≠ t → x ≠ t + 1 → x ≠ t + 2 → x ≠ t + 3 → x ≠ t + 4 → c' x y = c x y
theorem fPa_rfl (t : Nat) (c : zI) : fPa t c c := fun _ _ _ _ _ _ _ _ => rfl
theorem fPa_tr {t : Nat} {a b e : zI} (h : fPa t a b) (q : fPa t b e) : fPa t a e := fun x y z1 z2 z3 z4 z5 z6 => by rw [q x y z1 z2 z3 z4 z5 z6, h x y z1 z2 z3 z4 z5 z6]
theorem fR0_P {t : Nat} {a b : zI} (h : fR0 a b) : fPa t a b := fun x y z _ _ _ _ _ => h x y z
theorem fEx_P {t k : Nat} {a b : zI} (h : fEx t k a b) : fPa t a b := fun x y z z1 z2 _ _ _ => h x y z (fun q => z1 q.1) (fun q => z2 q.1)
theorem fBar_P {t : Nat} {a b : zI} (h : fBar t a b) : fPa t a b := fun x y _ z1 _ _ _ z5 => h x y (fun q => z1 q.1) z5
theorem fPa_put {t k x : Nat} {a b : zI} {v : Int32} (hx : x = t ∨ x = t + 2 ∨ x = t + 3) (h : fPa t a b) : fPa t a (zu b x k v) := fun u y z z1 z2 z3 z4 z5 => by rw [zu_nc (by omega)]; exact h u y z z1 z2 z3 z4 z5
theorem iPB_R {t : Nat} {c c' : zI} {cs : List pCl} (ht : iPc t) (h : fR0 c c') (q : iPB t c cs) : iPB t c' cs :=
  ⟨cPa_eq (fun k => h _ _ (by omega)) (fun k => h _ _ (by omega)) (fun k => h _ _ (by omega)) (fun k => h _ _ (by omega)) q.1, by rw [h t 5 (by omega)]; exact q.2⟩
theorem rS_B {t n : Nat} {ok : Bool} {l : List Nat} {c c' : zI} (ht : iPc t) (h : fBar t c c') (q : rS c n ok l) : rS c' n ok l := rS_eq (fun k => h _ _ (by omega) (by omega)) (fun k => h _ _ (by omega) (by omega)) q
theorem rS_p {t n x k : Nat} {ok : Bool} {l : List Nat} {c : zI} {v : Int32} (ht : iPc t) (hx : x = t ∨ x = t + 2 ∨ x = t + 3) (q : rS c n ok l) : rS (zu c x k v) n ok l := rS_eq (fun k => zu_nc (by omega)) (fun k => zu_nc (by omega)) q
theorem iPB_num {t w v : Nat} {c : zI} {cs : List pCl} (ht : iPc t) (hw : w < 3) (h : iPB t c cs) : iPB t (zu c t w (Int32.ofNat v)) (cs ++ [(w, v, [])]) := by
  obtain ⟨⟨⟨a, b, e, f⟩, ⟨g, g2⟩, i, j⟩, k⟩ := h
  have w4 : ((w, v, []) : pCl).1 ≠ 4 := by show w ≠ 4; omega
  have w3 : ((w, v, []) : pCl).1 ≠ 3 := by show w ≠ 3; omega
  have ew : wCl (cs ++ [(w, v, [])]) = wCl cs := wCl_ne w4
  have law : ∀ w' n0, w' < 3 → c t w' = Int32.ofNat (cLaw w' n0 cs) → zu c t w (Int32.ofNat v) t w' = Int32.ofNat (cLaw w' n0 (cs ++ [(w, v, [])])) := fun w' n0 _ h => by
    rw [cLaw_snoc]
    show _ = Int32.ofNat (if w = w' then v else _)
    by_cases e : w = w'
    · subst e; rw [if_pos rfl, zu_eq]
    · rw [if_neg e, zu_nk (fun z => e z.symm)]; exact h
  unfold iPB cPa
  rw [ew]
  refine ⟨⟨⟨law 0 2 (by decide) a, law 1 1 (by decide) b, law 2 0 (by decide) e, ?_⟩, ⟨by rw [zu_nk (by omega)]; exact g, g2⟩, cWs_eq (fun k => zu_nc (by omega)) (fun k => zu_nc (by omega)) (fun k => zu_nc (by omega)) _ _ _ i, j⟩, by rw [zu_nk (by omega)]; exact k⟩
  rw [zu_nk (by omega), f]
  congr 1
  funext k
  rw [cBarB_ne w3]
theorem wF_tab : ∀ s : Nat, s < 128 → pIn wFst s < 5 → s = 98 ∨ s = 102 ∨ s = 104 ∨ s = 108 ∨ s = 119 := by decide +kernel
theorem cWs_eq3 {c c' : zI} {t : Nat} (h1 : ∀ i, c' (t + 1) i = c (t + 1) i) : ∀ (ws : List pCl) (k a : Nat), (∀ i, i < k + ws.length → c' (t + 2) i = c (t + 2) i) → (∀ i, i < k + ws.length → c' (t + 3) i = c (t + 3) i) → cWs c t k a ws → cWs c' t k a ws
  | [], _, _, _, _, _ => trivial
  | x :: ws, k, a, h2, h3, q => by
    simp only [List.length_cons] at h2 h3
    exact ⟨⟨by rw [h2 k (by omega)]; exact q.1.1, by rw [h3 k (by omega)]; exact q.1.2.1, cSteps_eq _ _ (fun i _ _ => h1 i) q.1.2.2⟩, cWs_eq3 h1 ws _ _ (fun i hi => h2 i (by omega)) (fun i hi => h3 i (by omega)) q.2⟩
theorem pCl_s0 {s w : Nat} {r : List Nat} (hw : pIn wFst s = w) (h5 : w < 5) (h : (pSkip (wLt w ++ [32]) (s :: r)).1 = false) : pClause (s :: r) = (false, (pSkip (wLt w ++ [32]) (s :: r)).2, (0, 0, [])) := by
  unfold pClause
  simp only [hw]
  rw [if_neg (by omega), if_pos h]
theorem pCl_b {s : Nat} {r : List Nat} (hw : pIn wFst s = 3) (h : (pSkip (wLt 3 ++ [32]) (s :: r)).1 = true) : pClause (s :: r) = pCond 3 0 (pSkip (wLt 3 ++ [32]) (s :: r)).2 := by
  unfold pClause
  simp only [hw]
  rw [if_neg (by decide), if_neg (by rw [h]; exact Bool.noConfusion), if_pos trivial]
theorem pCl_n0 {s w : Nat} {r : List Nat} (hw : pIn wFst s = w) (h5 : w < 5) (h3 : w ≠ 3) (h : (pSkip (wLt w ++ [32]) (s :: r)).1 = true) (hn : (pNum (pSkip (wLt w ++ [32]) (s :: r)).2).1 = false) : pClause (s :: r) = (false, (pNum (pSkip (wLt w ++ [32]) (s :: r)).2).2.1, (0, 0, [])) := by
  unfold pClause
  simp only [hw]
  rw [if_neg (by omega), if_neg (by rw [h]; exact Bool.noConfusion), if_neg h3, if_pos hn]
theorem pCl_n {s w : Nat} {r : List Nat} (hw : pIn wFst s = w) (h3 : w < 3) (h : (pSkip (wLt w ++ [32]) (s :: r)).1 = true) (hn : (pNum (pSkip (wLt w ++ [32]) (s :: r)).2).1 = true) : pClause (s :: r) = (true, (pNum (pSkip (wLt w ++ [32]) (s :: r)).2).2.1, (w, (pNum (pSkip (wLt w ++ [32]) (s :: r)).2).2.2, [])) := by
  unfold pClause
  simp only [hw]
  rw [if_neg (by omega), if_neg (by rw [h]; exact Bool.noConfusion), if_neg (by omega), if_neg (by rw [hn]; exact Bool.noConfusion), if_neg (by omega)]
theorem pCl_w0 {s : Nat} {r : List Nat} (hw : pIn wFst s = 4) (h : (pSkip (wLt 4 ++ [32]) (s :: r)).1 = true) (hn : (pNum (pSkip (wLt 4 ++ [32]) (s :: r)).2).1 = true) (hb : (pSkip [32] (pNum (pSkip (wLt 4 ++ [32]) (s :: r)).2).2.1).1 = false) : pClause (s :: r) = (false, (pSkip [32] (pNum (pSkip (wLt 4 ++ [32]) (s :: r)).2).2.1).2, (0, 0, [])) := by
  unfold pClause
  simp only [hw]
  rw [if_neg (by decide), if_neg (by rw [h]; exact Bool.noConfusion), if_neg (by decide), if_neg (by rw [hn]; exact Bool.noConfusion), if_pos trivial, if_pos hb]
theorem pCl_w {s : Nat} {r : List Nat} (hw : pIn wFst s = 4) (h : (pSkip (wLt 4 ++ [32]) (s :: r)).1 = true) (hn : (pNum (pSkip (wLt 4 ++ [32]) (s :: r)).2).1 = true) (hb : (pSkip [32] (pNum (pSkip (wLt 4 ++ [32]) (s :: r)).2).2.1).1 = true) : pClause (s :: r) = pCond 4 (pNum (pSkip (wLt 4 ++ [32]) (s :: r)).2).2.2 (pSkip [32] (pNum (pSkip (wLt 4 ++ [32]) (s :: r)).2).2.1).2 := by
  unfold pClause
  simp only [hw]
  rw [if_neg (by decide), if_neg (by rw [h]; exact Bool.noConfusion), if_neg (by decide), if_neg (by rw [hn]; exact Bool.noConfusion), if_pos trivial, if_neg (by rw [hb]; exact Bool.noConfusion)]
theorem pz_sOK {l : List Nat} (h : (pz pFu 3 0 l).1 = true) : sOK (pz pFu 3 0 l).2.2 0 := by
  have := pz_ok pFu 3 0 l 0 [] (by decide) (by decide) (Nat.zero_le _) h rfl
  rw [List.append_nil] at this
  exact this
section CLAUSEC
variable {d : Nat} {X : zS} {fr nx : Nat} {P : zR0} {c : zI} {lc : zJ} {n t : Nat} {cs : List pCl}
/-- holds, least, forget -/
theorem t_25n {K : zI → zJ → Prop} {w a s : Nat} {r : List Nat} (ht : iPc t) (ha : a = 10 ∨ a = 11 ∨ a = 12 ∨ a = 13 ∨ a = 16) (hwa : wTx a = wLt w ++ [32]) (hw : pIn wFst s = w) (h3 : w < 3) (hx : rS c n true (s :: r)) (hB : iPB t c cs)
    (h0 : (pClause (s :: r)).1 = false → ∀ c', fPa t c c' → rS c' n false (pClause (s :: r)).2.1 → K c' lc)
    (h1 : (pClause (s :: r)).1 = true → ∀ c', fPa t c c' → rS c' n true (pClause (s :: r)).2.1 → iPB t c' (cs ++ [(pClause (s :: r)).2.2]) → K c' lc) :
    TV (d + 6) 27 [.ref 25, .retAddr a] (zCS ++ X) (zCR fr nx P) c lc (fun mi5 ml5 => TI (d + 6) 36 [.ref 25] (zCS ++ X) (zCR fr nx P) mi5 ml5 (fun v6 mi6 ml6 => qV K none (zu mi6 t w v6) ml6)) := by
  refine t_27 (d := d) ha hx (fun c1 f1 x1 => ?_)
  rw [hwa] at x1
  have e1 : pSk true (wLt w ++ [32]) (s :: r) = pSkip (wLt w ++ [32]) (s :: r) := rfl
  rw [e1] at x1
  by_cases o1 : (pSkip (wLt w ++ [32]) (s :: r)).1 = true
  · rw [o1] at x1
    refine t_36 (d := d + 4) x1 (fun c2 f2 x2 => ?_)
    have f := fR0_tr f1 f2
    by_cases o2 : (pNum (pSkip (wLt w ++ [32]) (s :: r)).2).1 = true
    · rw [pCl_n hw h3 o1 o2] at h1
      rw [o2] at x2
      exact h1 rfl _ (fPa_put (.inl rfl) (fR0_P f)) (rS_p ht (.inl rfl) x2) (iPB_num ht h3 (iPB_R ht f hB))
    · rw [Bool.not_eq_true] at o2
      rw [pCl_n0 hw (by omega) (by omega) o1 o2] at h0
      rw [o2] at x2
      exact h0 rfl _ (fPa_put (.inl rfl) (fR0_P f)) (rS_p ht (.inl rfl) x2)
  · rw [Bool.not_eq_true] at o1
    rw [pCl_s0 hw (by omega) o1] at h0
    rw [o1] at x1
    exact t_36f (d := d + 4) x1 (fun c2 f2 x2 => h0 rfl _ (fPa_put (.inl rfl) (fR0_P (fR0_tr f1 f2))) (rS_p ht (.inl rfl) x2))
/-- bar -/
theorem t_25b {K : zI → zJ → Prop} {s : Nat} {r : List Nat} (ht : iPc t) (hw : pIn wFst s = 3) (hx : rS c n true (s :: r)) (hB : iPB t c cs) (hr : (aTk (wCl cs)).length + (s :: r).length ≤ n)
    (h0 : (pClause (s :: r)).1 = false → ∀ c', fPa t c c' → rS c' n false (pClause (s :: r)).2.1 → K c' lc)
    (h1 : (pClause (s :: r)).1 = true → ∀ c', fPa t c c' → rS c' n true (pClause (s :: r)).2.1 → iPB t c' (cs ++ [(pClause (s :: r)).2.2]) → K c' lc) :
    TV (d + 22) 27 [.ref 25, .retAddr 13] (zCS ++ X) (zCR fr nx P) c lc (fun mi2 ml2 => TV (d + 22) 37 [.ref 25, .ref t, .int 0] (zCS ++ X) (zCR fr nx P) mi2 ml2 (fun mi3 ml3 => TV (d + 22) 43 [.ref t] (zCS ++ X) (zCR fr nx P) mi3 ml3 (fun mi4 ml4 => qV K none mi4 ml4))) := by
  have n100 := hx.1.1
  refine t_27 (d := d + 16) (by decide) hx (fun c1 f1 x1 => ?_)
  have e1 : pSk true (wTx 13) (s :: r) = pSkip (wLt 3 ++ [32]) (s :: r) := rfl
  rw [e1] at x1
  have hB1 := iPB_R ht f1 hB
  by_cases o1 : (pSkip (wLt 3 ++ [32]) (s :: r)).1 = true
  · rw [pCl_b hw o1] at h0 h1
    rw [o1] at x1
    have hl := pSkip_len (wLt 3 ++ [32]) (s :: r)
    generalize (pSkip (wLt 3 ++ [32]) (s :: r)).2 = l1 at x1 h0 h1 hl
    refine t_37 (d := d) ht x1 hB1.2 (by omega) (fun c2 hX => ?_)
    have hX' := hX
    obtain ⟨a1, a2, a3, a4⟩ := hX'
    have hP2 : cPa t c2 cs := cPa_eq2 (fun k hk => a1 _ _ (by omega) (by omega) (by omega)) (fun i hi => a1 _ _ (by omega) (by omega) (by omega)) (fun k => a1 _ _ (by omega) (by omega) (by omega)) (fun k => a1 _ _ (by omega) (by omega) (by omega)) hB1.1
    by_cases o2 : (pz pFu 3 0 l1).1 = true
    · obtain ⟨b1, b2⟩ := a3 o2
      have htk := pz_tok pFu 3 0 l1 (by decide) o2
      refine t_43 (d := d + 19) ht hP2 b1 (by omega) b2 (pz_sOK o2) (fun c3 f3 e3 e5 => ?_)
      rw [o2] at a2
      have w4 : ((3, 0, (pz pFu 3 0 l1).2.2) : pCl).1 ≠ 4 := by show (3 : Nat) ≠ 4; decide
      refine h1 o2 c3 (fPa_tr (fR0_P f1) (fPa_tr (fEx_P a1) (fBar_P f3))) (rS_B ht f3 a2) ?_
      show iPB t c3 (cs ++ [(3, 0, (pz pFu 3 0 l1).2.2)])
      obtain ⟨⟨u1, u2, u3, u4⟩, ⟨g, g2⟩, i, j⟩ := hP2
      have law : ∀ w' n0, w' < 3 → c2 t w' = Int32.ofNat (cLaw w' n0 cs) → c3 t w' = Int32.ofNat (cLaw w' n0 (cs ++ [(3, 0, (pz pFu 3 0 l1).2.2)])) := fun w' n0 hw' hh => by
        rw [cLaw_snoc]
        show _ = Int32.ofNat (if 3 = w' then 0 else _)
        rw [if_neg (by omega), f3 _ _ (by omega) (by omega)]
        exact hh
      unfold iPB cPa
      rw [wCl_ne w4]
      exact ⟨⟨⟨law 0 2 (by decide) u1, law 1 1 (by decide) u2, law 2 0 (by decide) u3, e3⟩, ⟨by rw [f3 _ _ (by omega) (by omega)]; exact g, g2⟩, cWs_eq (fun k => f3 _ _ (by omega) (by omega)) (fun k => f3 _ _ (by omega) (by omega)) (fun k => f3 _ _ (by omega) (by omega)) _ _ _ i, j⟩, e5⟩
    · rw [Bool.not_eq_true] at o2
      rw [o2] at a2
      exact t_43w (d := d + 19) ht hP2 (fun c3 f3 => h0 o2 c3 (fPa_tr (fR0_P f1) (fPa_tr (fEx_P a1) (fBar_P f3))) (rS_B ht f3 a2))
  · rw [Bool.not_eq_true] at o1
    rw [pCl_s0 hw (by decide) o1] at h0
    rw [o1] at x1
    exact t_37f (d := d + 19) ht (rS_nf x1) (t_43w (d := d + 19) ht hB1.1 (fun c3 f3 => h0 rfl c3 (fPa_tr (fR0_P f1) (fBar_P f3)) (rS_B ht f3 x1)))
/-- addWorth of what has been read, or of nothing -/
theorem t_48w {e : Nat} {K : zI → zJ → Prop} {c1 : zI} {v : Int32} {l1 : List Nat} (ht : iPc t) (hB : cPa t c1 cs) (hf : fPa t c c1) (hx : rS c1 n false l1) (h0 : ∀ c', fPa t c c' → rS c' n false l1 → K c' lc) : TV (e + 1) 48 [.ref t, .int v] (zCS ++ X) (zCR fr nx P) c1 lc K :=
  t_48 ht hB.2.1.1 hB.2.1.2 (fun _ => h0 _ hf hx) (fun _ => h0 _ (fPa_put (.inl rfl) (fPa_put (.inr (.inr rfl)) (fPa_put (.inr (.inl rfl)) hf))) (rS_p ht (.inl rfl) (rS_p ht (.inr (.inr rfl)) (rS_p ht (.inr (.inl rfl)) hx))))
/-- worth -/
theorem t_25w {K : zI → zJ → Prop} {s : Nat} {r : List Nat} (ht : iPc t) (hw : pIn wFst s = 4) (hx : rS c n true (s :: r)) (hB : iPB t c cs) (hr : (aTk (wCl cs)).length + (s :: r).length ≤ n) (h10 : cs.length < 10)
    (h0 : (pClause (s :: r)).1 = false → ∀ c', fPa t c c' → rS c' n false (pClause (s :: r)).2.1 → K c' lc)
    (h1 : (pClause (s :: r)).1 = true → ∀ c', fPa t c c' → rS c' n true (pClause (s :: r)).2.1 → iPB t c' (cs ++ [(pClause (s :: r)).2.2]) → K c' lc) :
    TV (d + 22) 27 [.ref 25, .retAddr 16] (zCS ++ X) (zCR fr nx P) c lc (fun mi11 ml11 => TI (d + 22) 36 [.ref 25] (zCS ++ X) (zCR fr nx P) mi11 ml11 (fun v12 mi12 ml12 => TV (d + 22) 35 [.ref 25, .int 32] (zCS ++ X) (zCR fr nx P) mi12 ml12 (fun mi13 ml13 => TV (d + 22) 37 [.ref 25, .ref t, .int 0] (zCS ++ X) (zCR fr nx P) mi13 ml13 (fun mi14 ml14 => TV (d + 22) 48 [.ref t, .int v12] (zCS ++ X) (zCR fr nx P) mi14 ml14 (fun mi15 ml15 => qV K none mi15 ml15))))) := by
  have n100 := hx.1.1
  have wl := wCl_le cs
  refine t_27 (d := d + 16) (by decide) hx (fun c1 f1 x1 => ?_)
  have e1 : pSk true (wTx 16) (s :: r) = pSkip (wLt 4 ++ [32]) (s :: r) := rfl
  rw [e1] at x1
  have bad : ∀ (c2 : zI) (l1 : List Nat) (v : Int32), fR0 c c2 → rS c2 n false l1 → (∀ c', fPa t c c' → rS c' n false l1 → K c' lc) → TV (d + 22) 35 [.ref 25, .int 32] (zCS ++ X) (zCR fr nx P) c2 lc (fun mi13 ml13 => TV (d + 22) 37 [.ref 25, .ref t, .int 0] (zCS ++ X) (zCR fr nx P) mi13 ml13 (fun mi14 ml14 => TV (d + 22) 48 [.ref t, .int v] (zCS ++ X) (zCR fr nx P) mi14 ml14 (fun mi15 ml15 => qV K none mi15 ml15))) := by
    intro c2 l1 v f2 x2 hk
    refine t_35 (d := d + 20) (s := 32) (by decide) x2 (fun c3 f3 x3 => ?_)
    have f := fR0_tr f2 f3
    exact t_37f (d := d + 19) ht (rS_nf x3) (t_48w (c := c) ht (iPB_R ht f hB).1 (fR0_P f) x3 hk)
  by_cases o1 : (pSkip (wLt 4 ++ [32]) (s :: r)).1 = true
  · rw [o1] at x1
    have hl1 := pSkip_len (wLt 4 ++ [32]) (s :: r)
    refine t_36 (d := d + 20) x1 (fun c2 f2 x2 => ?_)
    have f12 := fR0_tr f1 f2
    by_cases o2 : (pNum (pSkip (wLt 4 ++ [32]) (s :: r)).2).1 = true
    · rw [o2] at x2
      have hl2 := (pNum_len (pSkip (wLt 4 ++ [32]) (s :: r)).2).2
      refine t_35 (d := d + 20) (s := 32) (by decide) x2 (fun c3 f3 x3 => ?_)
      have f := fR0_tr f12 f3
      have hB3 := iPB_R ht f hB
      have e3 : pSk true [32] (pNum (pSkip (wLt 4 ++ [32]) (s :: r)).2).2.1 = pSkip [32] (pNum (pSkip (wLt 4 ++ [32]) (s :: r)).2).2.1 := rfl
      rw [e3] at x3
      by_cases o3 : (pSkip [32] (pNum (pSkip (wLt 4 ++ [32]) (s :: r)).2).2.1).1 = true
      · rw [pCl_w hw o1 o2 o3] at h0 h1
        rw [o3] at x3
        have hl3 := pSkip_len [32] (pNum (pSkip (wLt 4 ++ [32]) (s :: r)).2).2.1
        generalize (pNum (pSkip (wLt 4 ++ [32]) (s :: r)).2).2.2 = v at h0 h1 ⊢
        generalize (pSkip [32] (pNum (pSkip (wLt 4 ++ [32]) (s :: r)).2).2.1).2 = l1 at x3 h0 h1 hl3
        refine t_37 (d := d) ht x3 hB3.2 (by omega) (fun c4 hX => ?_)
        have hX' := hX
        obtain ⟨a1, a2, a3, a4⟩ := hX'
        have hP4 : cPa t c4 cs := cPa_eq2 (fun k hk => a1 _ _ (by omega) (by omega) (by omega)) (fun i hi => a1 _ _ (by omega) (by omega) (by omega)) (fun k => a1 _ _ (by omega) (by omega) (by omega)) (fun k => a1 _ _ (by omega) (by omega) (by omega)) hB3.1
        have F := fPa_tr (fR0_P (t := t) f) (fEx_P a1)
        by_cases o4 : (pz pFu 3 0 l1).1 = true
        · obtain ⟨b1, b2⟩ := a3 o4
          have htk := pz_tok pFu 3 0 l1 (by decide) o4
          rw [o4] at a2
          refine t_48 (d := d + 21) ht hP4.2.1.1 hP4.2.1.2 (fun z => by omega) (fun _ => ?_)
          refine h1 o4 _ (fPa_put (.inl rfl) (fPa_put (.inr (.inr rfl)) (fPa_put (.inr (.inl rfl)) F))) (rS_p ht (.inl rfl) (rS_p ht (.inr (.inr rfl)) (rS_p ht (.inr (.inl rfl)) a2))) ?_
          show iPB t _ (cs ++ [(4, v, (pz pFu 3 0 l1).2.2)])
          obtain ⟨⟨u1, u2, u3, u4⟩, ⟨g, g2⟩, i, j⟩ := hP4
          have law : ∀ w' n0, w' < 3 → c4 t w' = Int32.ofNat (cLaw w' n0 cs) → zu (zu (zu c4 (t + 2) (wCl cs).length (Int32.ofNat v)) (t + 3) (wCl cs).length (c4 t 5)) t 8 (Int32.ofNat ((wCl cs).length + 1)) t w' = Int32.ofNat (cLaw w' n0 (cs ++ [(4, v, (pz pFu 3 0 l1).2.2)])) := fun w' n0 hw' hh => by
            rw [cLaw_snoc]
            show _ = Int32.ofNat (if 4 = w' then v else _)
            rw [if_neg (by omega), zu_nk (by omega), zu_nc (by omega), zu_nc (by omega)]
            exact hh
          have etk : (aTk (wCl cs ++ [(4, v, (pz pFu 3 0 l1).2.2)])).length = (aTk (wCl cs)).length + (pz pFu 3 0 l1).2.2.length := by rw [aTk_snoc, List.length_append]
          unfold iPB cPa
          rw [wCl_eq (show ((4, v, (pz pFu 3 0 l1).2.2) : pCl).1 = 4 from rfl), etk, List.length_append]
          refine ⟨⟨⟨law 0 2 (by decide) u1, law 1 1 (by decide) u2, law 2 0 (by decide) u3, ?_⟩, ⟨by rw [zu_eq]; rfl, by show (wCl cs).length + 1 ≤ 10; omega⟩, cWs_snoc _ _ _ (cWs_eq3 (c := c4) (fun i => ?_) _ _ _ (fun i hi => ?_) (fun i hi => ?_) i) ?_ ?_ ?_, by omega⟩, ?_⟩
          · rw [zu_nk (by decide), zu_nc (by omega), zu_nc (by omega), u4]
            congr 1
            funext k
            rw [cBarB_ne (show (4 : Nat) ≠ 3 by decide)]
          · rw [zu_nc (by omega), zu_nc (by omega), zu_nc (by omega)]
          · rw [zu_nc (by omega), zu_nc (by omega), zu_nk (by omega)]
          · rw [zu_nc (by omega), zu_nk (by omega), zu_nc (by omega)]
          · rw [Nat.zero_add, zu_nc (by omega), zu_nc (by omega), zu_eq]
          · rw [Nat.zero_add, Nat.zero_add, zu_nc (by omega), zu_eq, b1]
          · rw [Nat.zero_add]
            exact cSteps_eq _ _ (fun i _ _ => by rw [zu_nc (by omega), zu_nc (by omega), zu_nc (by omega)]) b2
          · rw [zu_nk (by decide), zu_nc (by omega), zu_nc (by omega), b1]
        · rw [Bool.not_eq_true] at o4
          rw [o4] at a2
          exact t_48w (c := c) ht hP4 F a2 (h0 o4)
      · rw [Bool.not_eq_true] at o3
        rw [pCl_w0 hw o1 o2 o3] at h0
        rw [o3] at x3
        exact t_37f (d := d + 19) ht (rS_nf x3) (t_48w (c := c) ht hB3.1 (fR0_P f) x3 (h0 rfl))
    · rw [Bool.not_eq_true] at o2
      rw [pCl_n0 hw (by decide) (by decide) o1 o2] at h0
      rw [o2] at x2
      exact bad c2 _ _ f12 x2 (h0 rfl)
  · rw [Bool.not_eq_true] at o1
    rw [pCl_s0 hw (by decide) o1] at h0
    rw [o1] at x1
    exact t_36f (d := d + 20) x1 (fun c2 f2 x2 => bad c2 _ _ (fR0_tr f1 f2) x2 (h0 rfl))
end CLAUSEC
