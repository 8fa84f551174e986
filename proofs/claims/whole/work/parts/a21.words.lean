/-! The class reads: its words, signs, numbers. -/
def wTx (a : Nat) : List Nat := match a with
  | 10 => wLt 0 ++ [32]
  | 11 => wLt 1 ++ [32]
  | 12 => wLt 2 ++ [32]
  | 13 => wLt 3 ++ [32]
  | 16 => wLt 4 ++ [32]
  | 14 => pLet
  | 15 => pSig
  | _ => []
theorem zex_I {d j f : Nat} {args : List Value} {S : zS} {R : zR0} {mi : zI} {ml : zJ} {v : Int32} {K : Int32 → zI → zJ → Prop} (h : zex f d j 0 (zent args (zM j).1) [] S R mi ml = some (some (.int v), S, R, mi, ml)) (k : K v mi ml) : TI d j args S R mi ml K :=
  ⟨f, _, _, _, _, _, h, v, rfl, rfl, rfl, k⟩
abbrev iWx (a : Nat) : Prop := a = 10 ∨ a = 11 ∨ a = 12 ∨ a = 13 ∨ a = 14 ∨ a = 15 ∨ a = 16
section WORDS
variable {d : Nat} {S : zS} {R : zR0} {c : zI} {lc : zJ}
theorem t_28 {K : Int32 → zI → zJ → Prop} {a : Nat} (ha : iWx a) (h : K (Int32.ofNat (wTx a).length) c lc) : TI (d + 2) 28 [.retAddr a] S R c lc K := by
  rcases ha with rfl | rfl | rfl | rfl | rfl | rfl | rfl <;> exact zex_I (f := 20) rfl h
theorem t_30 {K : Int32 → zI → zJ → Prop} {a i : Nat} (ha : iWx a) (hi : i < (wTx a).length) (h : K (Int32.ofNat ((wTx a).getD i 0)) c lc) : TI (d + 5) 30 [.retAddr a, .int (Int32.ofNat i)] S R c lc K := by
  rcases ha with rfl | rfl | rfl | rfl | rfl | rfl | rfl
  · have hi : i < 6 := hi
    have : i = 0 ∨ i = 1 ∨ i = 2 ∨ i = 3 ∨ i = 4 ∨ i = 5 := by omega
    rcases this with rfl | rfl | rfl | rfl | rfl | rfl <;> exact zex_I (f := 60) rfl h
  · have hi : i < 6 := hi
    have : i = 0 ∨ i = 1 ∨ i = 2 ∨ i = 3 ∨ i = 4 ∨ i = 5 := by omega
    rcases this with rfl | rfl | rfl | rfl | rfl | rfl <;> exact zex_I (f := 60) rfl h
  · have hi : i < 7 := hi
    have : i = 0 ∨ i = 1 ∨ i = 2 ∨ i = 3 ∨ i = 4 ∨ i = 5 ∨ i = 6 := by omega
    rcases this with rfl | rfl | rfl | rfl | rfl | rfl | rfl <;> exact zex_I (f := 60) rfl h
  · have hi : i < 4 := hi
    have : i = 0 ∨ i = 1 ∨ i = 2 ∨ i = 3 := by omega
    rcases this with rfl | rfl | rfl | rfl <;> exact zex_I (f := 60) rfl h
  · have hi : i < 6 := hi
    have : i = 0 ∨ i = 1 ∨ i = 2 ∨ i = 3 ∨ i = 4 ∨ i = 5 := by omega
    rcases this with rfl | rfl | rfl | rfl | rfl | rfl <;> exact zex_I (f := 60) rfl h
  · have hi : i < 3 := hi
    have : i = 0 ∨ i = 1 ∨ i = 2 := by omega
    rcases this with rfl | rfl | rfl <;> exact zex_I (f := 60) rfl h
  · have hi : i < 6 := hi
    have : i = 0 ∨ i = 1 ∨ i = 2 ∨ i = 3 ∨ i = 4 ∨ i = 5 := by omega
    rcases this with rfl | rfl | rfl | rfl | rfl | rfl <;> exact zex_I (f := 60) rfl h
end WORDS
theorem wTx_lt (a : Nat) : ∀ i, (wTx a).getD i 0 < 1000 := by
  have : ∀ x, x ∈ wTx a → x < 1000 := by
    unfold wTx
    split <;> decide
  intro i
  by_cases h : i < (wTx a).length
  · rw [List.getD_eq_getElem?_getD, List.getElem?_eq_getElem h]
    exact this _ (List.getElem_mem h)
  · rw [List.getD_eq_getElem?_getD, List.getElem?_eq_none (by omega)]
    decide
theorem wTx_len (a : Nat) : (wTx a).length ≤ 7 := by
  unfold wTx
  split <;> decide
/-- the reader is there: l is left of n signs; whether all went so far -/
def rT (c : zI) (n : Nat) (l : List Nat) : Prop := (l.length ≤ n ∧ n ≤ 100) ∧ c 25 2 = Int32.ofNat (n - l.length) ∧ c 25 1 = Int32.ofNat n ∧ ∀ i, i < l.length → c 26 (n - l.length + i) = Int32.ofNat (l.getD i 0) ∧ l.getD i 0 < 128
def rS (c : zI) (n : Nat) (ok : Bool) (l : List Nat) : Prop := rT c n l ∧ c 25 3 = if ok = true then 0 else 1
def fR0 (c c' : zI) : Prop := ∀ x y, ¬ (x = 25 ∧ (y = 2 ∨ y = 3)) → c' x y = c x y
theorem fR0_rfl (c : zI) : fR0 c c := fun _ _ _ => rfl
theorem fR0_tr {a b e : zI} (h : fR0 a b) (q : fR0 b e) : fR0 a e := fun x y z => by rw [q x y z, h x y z]
theorem fR0_p {c c' : zI} {k : Nat} {v : Int32} (hk : k = 2 ∨ k = 3) (h : fR0 c c') : fR0 c (zu c' 25 k v) := fun x y z => by rw [zu_ne (by omega)]; exact h x y z
theorem rT_eq {c c' : zI} {n : Nat} {l : List Nat} (h2 : c' 25 2 = c 25 2) (h1 : c' 25 1 = c 25 1) (h : ∀ k, c' 26 k = c 26 k) (q : rT c n l) : rT c' n l := by
  obtain ⟨a, b, e, f⟩ := q
  exact ⟨a, by rw [h2]; exact b, by rw [h1]; exact e, fun i hi => by rw [h]; exact f i hi⟩
theorem rT_c {c : zI} {n s : Nat} {l : List Nat} (h : rT c n (s :: l)) : s < 128 := (h.2.2.2 0 (Nat.succ_pos _)).2
theorem rT_tl {c : zI} {n s : Nat} {l : List Nat} (h : rT c n (s :: l)) : rT (zu c 25 2 (c 25 2 + 1)) n l := by
  obtain ⟨⟨a1, a2⟩, b, c', e⟩ := h
  simp only [List.length_cons] at *
  refine ⟨⟨by omega, a2⟩, ?_, by rw [zu_nk (by decide)]; exact c', fun i hi => ?_⟩
  · rw [zu_eq, b, n_suc, show n - (l.length + 1) + 1 = n - l.length by omega]
  · have := e (i + 1) (by omega)
    rw [show n - (l.length + 1) + (i + 1) = n - l.length + i by omega] at this
    rw [zu_nc (by decide)]
    simpa using this
theorem rS_tl {c : zI} {n s : Nat} {ok : Bool} {l : List Nat} (h : rS c n ok (s :: l)) : rS (zu c 25 2 (c 25 2 + 1)) n ok l := ⟨rT_tl h.1, by rw [zu_nk (by decide)]; exact h.2⟩
theorem rS_fail {c : zI} {n : Nat} {ok : Bool} {l : List Nat} (h : rS c n ok l) : rS (zu c 25 3 1) n false l := ⟨rT_eq (zu_nk (by decide)) (zu_nk (by decide)) (fun k => zu_nc (by decide)) h.1, zu_eq⟩
theorem rsg_eq {l : List Nat} {c : zI} {n s : Nat} (hx : rT c n l) (hs : s < 1000) : sg l = Int32.ofNat s ↔ ∃ r, l = s :: r := by
  match l, hx with
  | [], _ => exact ⟨fun e => absurd e.symm (n_ne1 (by omega)), fun ⟨r, e⟩ => by cases e⟩
  | q :: r, hx =>
    have := rT_c hx
    constructor
    · intro e
      exact ⟨r, by rw [(n_eq (by omega) (by omega)).mp e]⟩
    · rintro ⟨r', e⟩
      injection e with e1 e2
      rw [e1]; rfl
def pSk (ok : Bool) (ss l : List Nat) : Bool × List Nat := if ok = true then pSkip ss l else (false, l)
section SIGNSC
variable {d : Nat} {X : zS} {fr nx : Nat} {P : zR0} {c : zI} {lc : zJ} {n : Nat} {l : List Nat}
theorem t_26 {K : Int32 → zI → zJ → Prop} (hx : rT c n l) (h : K (sg l) c lc) : TI (d + 1) 26 [.ref 25] (zCS ++ X) (zCR fr nx P) c lc K := by
  obtain ⟨⟨a1, a2⟩, b, e1, e⟩ := hx
  refine TI_of (B_26 ?_)
  rw [b, e1]
  refine ⟨fun x => absurd ((n_lt (b := 0) (by omega) (by decide)).mp x) (by omega), fun _ => ?_⟩
  match l, h with
  | [], h => exact ⟨fun _ => h, fun x => absurd ((n_le (by omega) (by omega)).mpr (by simp only [List.length_nil]; omega)) x⟩
  | s :: r, h =>
    simp only [List.length_cons] at *
    have := (e 0 (by omega)).1
    refine ⟨fun x => absurd ((n_le (by omega) (by omega)).mp x) (by omega), fun _ => ⟨fun x => absurd ((n_le (a := 100) (by decide) (by omega)).mp x) (by omega), fun _ => ⟨n_zin (by omega) (by omega), ?_⟩⟩⟩
    rw [n_cl (by omega)]
    rw [Nat.add_zero] at this
    rw [this]; exact h
theorem t_35 {K : zI → zJ → Prop} {ok : Bool} {s : Nat} (hs : s < 1000) (hx : rS c n ok l) (h : ∀ c', fR0 c c' → rS c' n (pSk ok [s] l).1 (pSk ok [s] l).2 → K c' lc) : TV (d + 2) 35 [.ref 25, .int (Int32.ofNat s)] (zCS ++ X) (zCR fr nx P) c lc K := by
  have hff : rS (zu c 25 3 1) n false l := rS_fail hx
  cases ok with
  | false =>
    exact TV_of (B_35 _ ⟨fun _ => ⟨.inr rfl, h _ (fR0_p (.inr rfl) (fR0_rfl c)) hff⟩, fun x => absurd (show c 25 3 ≠ 0 by rw [hx.2]; decide) x⟩)
  | true =>
    refine TV_of (B_35 _ ⟨fun x => absurd hx.2 x, fun _ => t_26 hx.1 ⟨fun e => ?_, fun e => ⟨.inr rfl, ?_⟩⟩⟩)
    · obtain ⟨r, rfl⟩ := (rsg_eq hx.1 hs).mp e
      have := h _ (fR0_p (.inl rfl) (fR0_rfl c)) (by
        have e2 : pSk true [s] (s :: r) = (true, r) := by unfold pSk; rw [if_pos rfl, pSkip, if_pos rfl]; rfl
        rw [e2]; exact rS_tl hx)
      exact this
    · have e2 : pSk true [s] l = (false, l) := by
        unfold pSk
        rw [if_pos rfl]
        match l, e, hx with
        | [], _, _ => rfl
        | q :: r, e, hx =>
          rw [pSkip, if_neg (fun z => e ((rsg_eq hx.1 hs).mpr ⟨r, by rw [z]⟩))]
      exact h _ (fR0_p (.inr rfl) (fR0_rfl c)) (by rw [e2]; exact hff)
theorem pSk_app (ok : Bool) (a b l : List Nat) : pSk ok (a ++ b) l = pSk (pSk ok a l).1 b (pSk ok a l).2 := by
  cases ok with
  | false => rfl
  | true =>
    unfold pSk
    rw [if_pos rfl, if_pos rfl, pSkip_app]
theorem t_27_2 {Q : zQ} {a : Nat} {c0 : zI} (ha : a = 10 ∨ a = 11 ∨ a = 12 ∨ a = 13 ∨ a = 16) : ∀ (j i : Nat) (ok : Bool) (l : List Nat) (c : zI), i + j = (wTx a).length → fR0 c0 c → rS c n ok l →
    (∀ c', fR0 c0 c' → rS c' n (pSk ok ((wTx a).drop i) l).1 (pSk ok ((wTx a).drop i) l).2 → Q none c' lc) → Wf (d + 6) 27 2 [.ref 25, .retAddr a, .int (Int32.ofNat i)] [] (zCS ++ X) (zCR fr nx P) c lc Q
  | 0, i, ok, l, c, e, hf, hx, h => by
    have hl := wTx_len a
    rw [List.drop_eq_nil_of_le (by omega)] at h
    have e0 : pSk ok [] l = (ok, l) := by cases ok <;> rfl
    rw [e0] at h
    refine B_27_2 a _ ha (t_28 (by unfold iWx; omega) ⟨fun _ => h c hf hx, fun x => absurd ((n_le (by omega) (by omega)).mpr (by omega)) x⟩)
  | j + 1, i, ok, l, c, e, hf, hx, h => by
    have hl := wTx_len a
    refine B_27_2 a _ ha (t_28 (by unfold iWx; omega) ⟨fun x => absurd ((n_le (by omega) (by omega)).mp x) (by omega), fun _ => t_30 (d := d) (by unfold iWx; omega) (by omega) (t_35 (d := d + 3) (wTx_lt a i) hx (fun c1 f1 x1 => ?_))⟩)
    rw [n_suc]
    have ed : (wTx a).drop i = [(wTx a).getD i 0] ++ (wTx a).drop (i + 1) := by
      rw [List.drop_eq_getElem_cons (by omega), List.getD_eq_getElem?_getD, List.getElem?_eq_getElem (by omega)]
      rfl
    rw [ed, pSk_app] at h
    exact t_27_2 ha j (i + 1) _ _ c1 (by omega) (fR0_tr hf f1) x1 h
/-- skipWord -/
theorem t_27 {K : zI → zJ → Prop} {a : Nat} {ok : Bool} (ha : a = 10 ∨ a = 11 ∨ a = 12 ∨ a = 13 ∨ a = 16) (hx : rS c n ok l) (h : ∀ c', fR0 c c' → rS c' n (pSk ok (wTx a) l).1 (pSk ok (wTx a) l).2 → K c' lc) : TV (d + 6) 27 [.ref 25, .retAddr a] (zCS ++ X) (zCR fr nx P) c lc K :=
  TV_of (B_27 a ha (t_27_2 (c0 := c) ha (wTx a).length 0 ok l c (by omega) (fR0_rfl c) hx h))
theorem fig_tab : ∀ s : Nat, s < 128 → (pFig s = true → ¬ Int32.ofNat s - 48 < 0 ∧ ¬ 9 < Int32.ofNat s - 48 ∧ s - 48 < 10 ∧ Int32.ofNat s - 48 = Int32.ofNat (s - 48)) ∧ (¬ pFig s = true → Int32.ofNat s - 48 < 0 ∨ 9 < Int32.ofNat s - 48) := by decide +kernel
/-- a look at one place for a figure -/
theorem t_36_st {Q : zQ} {v g k : Nat} (hx : rS c n true l) (hk : k < 2)
    (h0 : (∀ s r, l = s :: r → ¬ pFig s = true) → Wf (d + 2) 36 7 [.ref 25, .int (Int32.ofNat v), .int (Int32.ofNat g), .int (Int32.ofNat (k + 1)), .retAddr 0] [] (zCS ++ X) (zCR fr nx P) c lc Q)
    (h1 : ∀ s r, l = s :: r → pFig s = true → rS (zu c 25 2 (c 25 2 + 1)) n true r → Wf (d + 2) 36 7 [.ref 25, .int (Int32.ofNat (v * 10 + (s - 48))), .int (Int32.ofNat (g + 1)), .int (Int32.ofNat (k + 1)), .retAddr 0] [] (zCS ++ X) (zCR fr nx P) (zu c 25 2 (c 25 2 + 1)) lc Q) :
    Wf (d + 2) 36 7 [.ref 25, .int (Int32.ofNat v), .int (Int32.ofNat g), .int (Int32.ofNat k), .retAddr 0] [] (zCS ++ X) (zCR fr nx P) c lc Q := by
  refine B_36_7 _ _ _ ⟨fun x => absurd ((n_le (a := 2) (by decide) (by omega)).mp x) (by omega), fun _ => ⟨fun x => absurd hx.2 x, fun _ => t_26 hx.1 ?_⟩⟩
  rw [n_suc]
  match l, hx, h0, h1 with
  | [], hx, h0, h1 =>
    have e : sg [] - 48 < 0 := by decide
    exact ⟨fun _ => h0 (fun s r e => by cases e), fun x => absurd e x⟩
  | s :: r, hx, h0, h1 =>
    have hs := rT_c hx.1
    obtain ⟨t1, t2⟩ := fig_tab s hs
    show (Int32.ofNat s - 48 < 0 → _) ∧ _
    by_cases hfg : pFig s = true
    · obtain ⟨u1, u2, u3, u4⟩ := t1 hfg
      refine ⟨fun x => absurd x u1, fun _ => ⟨fun x => absurd x u2, fun _ => ?_⟩⟩
      have e5 : Int32.ofNat v * 10 + (sg (s :: r) - 48) = Int32.ofNat (v * 10 + (s - 48)) := by
        show Int32.ofNat v * Int32.ofNat 10 + (Int32.ofNat s - 48) = _
        rw [u4, ← Int32.ofNat_mul, n_add]
      rw [e5, n_suc g]
      exact h1 s r rfl hfg (rS_tl hx)
    · have hn : ∀ s' r', s :: r = s' :: r' → ¬ pFig s' = true := fun s' r' e => by injection e with e1 e2; rw [← e1]; exact hfg
      refine ⟨fun _ => h0 hn, fun x => ⟨fun _ => h0 hn, fun y => ?_⟩⟩
      exact absurd (t2 hfg) (fun z => z.elim x y)
theorem t_36_end {Q : zQ} {v g : Nat} {ok : Bool} (hg : g < 5) (hx : rS c n ok l) (h : ∀ c', fR0 c c' → rS c' n (ok && decide (g ≠ 0)) l → Q (some (.int (Int32.ofNat v))) c' lc) : Wf (d + 2) 36 7 [.ref 25, .int (Int32.ofNat v), .int (Int32.ofNat g), .int (Int32.ofNat 2), .retAddr 0] [] (zCS ++ X) (zCR fr nx P) c lc Q := by
  have e0 : Int32.ofNat g = 0 ↔ g = 0 := n_eq (b := 0) (by omega) (by decide)
  have keep : ∀ w : Int32, rT (zu c 25 3 w) n l := fun w => rT_eq (zu_nk (by decide)) (zu_nk (by decide)) (fun k => zu_nc (by decide)) hx.1
  refine B_36_7 _ _ _ ⟨fun _ => ⟨fun x => ?_, fun x => ?_⟩, fun x => absurd (show (2 : Int32) ≤ Int32.ofNat 2 by decide) x⟩
  · have hg0 : decide (g ≠ 0) = true := decide_eq_true (fun z => x (e0.mpr z))
    refine h c (fR0_rfl c) ?_
    rw [hg0, Bool.and_true]
    exact hx
  · have hg0 : decide (g ≠ 0) = false := decide_eq_false (fun z => z (e0.mp (Decidable.not_not.mp x)))
    refine ⟨.inr rfl, h _ (fR0_p (.inr rfl) (fR0_rfl c)) ⟨keep _, ?_⟩⟩
    rw [zu_eq, hg0, Bool.and_false]; rfl
/-- readNumber -/
theorem t_36 {K : Int32 → zI → zJ → Prop} (hx : rS c n true l) (h : ∀ c', fR0 c c' → rS c' n (pNum l).1 (pNum l).2.1 → K (Int32.ofNat (pNum l).2.2) c' lc) : TI (d + 2) 36 [.ref 25] (zCS ++ X) (zCR fr nx P) c lc K := by
  refine TI_of (B_36 (t_36_st (v := 0) (g := 0) (k := 0) hx (by decide) (fun hn => ?_) (fun s r e hf hx1 => ?_)))
  · have ep : pNum l = (false, l, 0) := by
      match l, hn with
      | [], _ => rfl
      | s :: r, hn => unfold pNum; simp only [hn s r rfl, if_false]; simp
    rw [ep] at h
    exact t_36_st (v := 0) (g := 0) (k := 1) hx (by decide) (fun _ => t_36_end (by decide) hx h) (fun s r e hf _ => absurd hf (hn s r e))
  · subst e
    have f1 : fR0 c (zu c 25 2 (c 25 2 + 1)) := fR0_p (.inl rfl) (fR0_rfl c)
    refine t_36_st (v := 0 * 10 + (s - 48)) (g := 1) (k := 1) hx1 (by decide) (fun hn => ?_) (fun s2 r2 e2 hf2 hx2 => ?_)
    · have ep : pNum (s :: r) = (true, r, s - 48) := by
        match r, hn with
        | [], _ => unfold pNum; simp only [hf, if_true]
        | q :: r, hn => unfold pNum; simp only [hf, if_true]; rw [if_neg (hn q r rfl)]
      rw [ep] at h
      rw [Nat.zero_mul, Nat.zero_add]
      exact t_36_end (by decide) hx1 (fun c' f' x' => h c' (fR0_tr f1 f') x')
    · subst e2
      have ep : pNum (s :: s2 :: r2) = (true, r2, 10 * (s - 48) + (s2 - 48)) := by
        unfold pNum; simp only [hf, hf2, if_true]
      rw [ep] at h
      have f2 := fR0_p (v := zu c 25 2 (c 25 2 + 1) 25 2 + 1) (.inl (rfl : (2 : Nat) = 2)) f1
      rw [Nat.zero_mul, Nat.zero_add, Nat.mul_comm (s - 48) 10]
      exact t_36_end (by decide) hx2 (fun c' f' x' => h c' (fR0_tr f2 f') x')
/-- the same where reading has failed -/
theorem t_36f {K : Int32 → zI → zJ → Prop} (hx : rS c n false l) (h : ∀ c', fR0 c c' → rS c' n false l → K 0 c' lc) : TI (d + 2) 36 [.ref 25] (zCS ++ X) (zCR fr nx P) c lc K := by
  have he : c 25 3 = 1 := hx.2
  refine TI_of (B_36 (B_36_7 _ _ _ ⟨fun x => absurd x (by decide), fun _ => ⟨fun _ => ⟨fun x => absurd rfl x, fun _ => ?_⟩, fun x => absurd (show c 25 3 ≠ 0 by rw [he]; decide) x⟩⟩))
  exact ⟨.inr rfl, h _ (fR0_p (.inr rfl) (fR0_rfl c)) (rS_fail hx)⟩
end SIGNSC
