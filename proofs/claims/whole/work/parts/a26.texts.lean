/-! The class reads: any clause, a text. -/
theorem wFst_tab : ∀ s : Nat, s < 128 → (s = 98 ∨ s = 102 ∨ s = 104 ∨ s = 108 ∨ s = 119 ∨ 5 ≤ pIn wFst s) := by decide +kernel
theorem wFst_no (s : Nat) (h : s < 128) (a : s ≠ 98) (b : s ≠ 102) (c : s ≠ 104) (d : s ≠ 108) (e : s ≠ 119) : 5 ≤ pIn wFst s := by
  rcases wFst_tab s h with q | q | q | q | q | q
  · exact absurd q a
  · exact absurd q b
  · exact absurd q c
  · exact absurd q d
  · exact absurd q e
  · exact q
theorem pCl_no {s : Nat} {r : List Nat} (h : 5 ≤ pIn wFst s) : pClause (s :: r) = (false, s :: r, (0, 0, [])) := by
  unfold pClause
  simp only
  rw [if_pos h]
theorem pCl_lt (l : List Nat) (h : (pClause l).1 = true) : ((pClause l).2.2.1 < 5 ∧ (pClause l).2.2.2.1 < 100 ∧ (3 ≤ (pClause l).2.2.1 → sOK (pClause l).2.2.2.2 0)) ∧ (pClause l).2.2.2.2.length + (pClause l).2.1.length ≤ l.length := by
  match l, h with
  | [], h => exact absurd h Bool.false_ne_true
  | s :: r, h =>
    have k1 := pSkip_len (wLt (pIn wFst s) ++ [32]) (s :: r)
    generalize hw : pIn wFst s = w at k1
    by_cases h5 : 5 ≤ w
    · rw [pCl_no (by rw [hw]; exact h5)] at h; exact absurd h Bool.false_ne_true
    by_cases o1 : (pSkip (wLt w ++ [32]) (s :: r)).1 = true
    · have cond : ∀ (v : Nat) (l1 : List Nat), (w = 3 ∨ w = 4) → v < 100 → l1.length ≤ (s :: r).length → pClause (s :: r) = pCond w v l1 → ((pClause (s :: r)).2.2.1 < 5 ∧ (pClause (s :: r)).2.2.2.1 < 100 ∧ (3 ≤ (pClause (s :: r)).2.2.1 → sOK (pClause (s :: r)).2.2.2.2 0)) ∧ (pClause (s :: r)).2.2.2.2.length + (pClause (s :: r)).2.1.length ≤ (s :: r).length := by
        intro v l1 w34 hv hl e
        rw [e] at h ⊢
        have htk := pz_tok pFu 3 0 l1 (by decide) h
        refine ⟨⟨by show w < 5; omega, hv, fun _ => pz_sOK h⟩, ?_⟩
        show (pz pFu 3 0 l1).2.2.length + (pz pFu 3 0 l1).2.1.length ≤ _
        omega
      by_cases h3 : w = 3
      · subst h3
        exact cond 0 _ (.inl rfl) (by decide) k1 (pCl_b hw o1)
      · have k2 := pNum_len (pSkip (wLt w ++ [32]) (s :: r)).2
        by_cases o2 : (pNum (pSkip (wLt w ++ [32]) (s :: r)).2).1 = true
        · have k3 := k2.1 o2
          by_cases h4 : w = 4
          · subst h4
            by_cases o3 : (pSkip [32] (pNum (pSkip (wLt 4 ++ [32]) (s :: r)).2).2.1).1 = true
            · have k4 := pSkip_len [32] (pNum (pSkip (wLt 4 ++ [32]) (s :: r)).2).2.1
              exact cond _ _ (.inr rfl) k3.2 (by omega) (pCl_w hw o1 o2 o3)
            · rw [Bool.not_eq_true] at o3
              rw [pCl_w0 hw o1 o2 o3] at h; exact absurd h Bool.false_ne_true
          · rw [pCl_n hw (by omega) o1 o2]
            exact ⟨⟨by show w < 5; omega, k3.2, fun z => by have z : 3 ≤ w := z; omega⟩, by show 0 + (pNum (pSkip (wLt w ++ [32]) (s :: r)).2).2.1.length ≤ (s :: r).length; omega⟩
        · rw [Bool.not_eq_true] at o2
          rw [pCl_n0 hw (by omega) h3 o1 o2] at h; exact absurd h Bool.false_ne_true
    · rw [Bool.not_eq_true] at o1
      rw [pCl_s0 hw (by omega) o1] at h; exact absurd h Bool.false_ne_true
theorem pText_ok : ∀ (k : Nat) (l : List Nat), iCs (pText k l).2.2
  | 0, l => fun c hc => absurd hc List.not_mem_nil
  | k + 1, l => by
    rw [pText]
    by_cases e : (pClause l).1 = true
    · rw [if_neg (by rw [e]; exact Bool.noConfusion)]
      have h1 := (pCl_lt l e).1
      generalize (pClause l).2.1 = Y
      match Y with
      | [] => intro c hc; rw [List.mem_singleton.mp hc]; exact h1
      | c :: r =>
        simp only
        split
        · exact fun c hc => absurd hc List.not_mem_nil
        · split
          · intro c hc
            rcases List.mem_cons.mp hc with hc | hc
            · rw [hc]; exact h1
            · exact pText_ok k r c hc
          · exact fun c hc => absurd hc List.not_mem_nil
    · rw [if_pos (by rw [Bool.not_eq_true] at e; exact e)]
      exact fun c hc => absurd hc List.not_mem_nil
/-- behind a clause x: k more may come -/
def pRs (k : Nat) (x : pCl) : List Nat → Bool × List Nat × List pCl
  | [] => (true, [], [x])
  | c :: r => if k = 0 ∨ c ≠ 59 then (false, c :: r, []) else if (pText k r).1 = true then (true, (pText k r).2.1, x :: (pText k r).2.2) else (false, (pText k r).2.1, [])
theorem pText_s (k : Nat) (l : List Nat) (h : (pClause l).1 = true) : pText (k + 1) l = pRs k (pClause l).2.2 (pClause l).2.1 := by
  rw [pText, if_neg (by rw [h]; exact Bool.noConfusion)]
  generalize (pClause l).2.1 = Y
  match Y with
  | [] => rfl
  | c :: r => rfl
theorem wTk_le {cs : List pCl} {x : pCl} : (aTk (wCl (cs ++ [x]))).length ≤ (aTk (wCl cs)).length + x.2.2.length := by
  by_cases h : x.1 = 4
  · rw [wCl_eq h, aTk_snoc, List.length_append]; exact Nat.le_refl _
  · rw [wCl_ne h]; exact Nat.le_add_right _ _
section TEXTC
variable {d : Nat} {X : zS} {fr nx : Nat} {P : zR0} {c : zI} {lc : zJ} {n t : Nat} {cs : List pCl}
/-- readClause -/
theorem t_25 {K : zI → zJ → Prop} {l : List Nat} (ht : iPc t) (hx : rS c n true l) (hB : iPB t c cs) (hr : (aTk (wCl cs)).length + l.length ≤ n) (h10 : cs.length < 10)
    (h0 : (pClause l).1 = false → ∀ c', fPa t c c' → rS c' n false (pClause l).2.1 → K c' lc)
    (h1 : (pClause l).1 = true → ∀ c', fPa t c c' → rS c' n true (pClause l).2.1 → iPB t c' (cs ++ [(pClause l).2.2]) → K c' lc) : TV (d + 23) 25 [.ref 25, .ref t] (zCS ++ X) (zCR fr nx P) c lc K := by
  refine TV_of (B_25 t ht (t_26 (d := d + 21) hx.1 ?_))
  have bad : pClause l = (false, l, (0, 0, [])) → ((1 : Int32) = 0 ∨ (1 : Int32) = 1) ∧ qV K none (zu c 25 3 1) lc := fun e => by
    rw [e] at h0
    exact ⟨.inr rfl, h0 rfl _ (fR0_P (fR0_p (.inr rfl) (fR0_rfl c))) (rS_fail hx)⟩
  match l, hx, hr, h0, h1, bad with
  | [], hx, hr, h0, h1, bad =>
    exact ⟨fun x => absurd x (by decide), fun _ => ⟨fun x => absurd x (by decide), fun _ => ⟨fun x => absurd x (by decide), fun _ => ⟨fun x => absurd x (by decide), fun _ => ⟨fun x => absurd x (by decide), fun _ => bad rfl⟩⟩⟩⟩⟩
  | s :: r, hx, hr, h0, h1, bad =>
    have hs := rT_c hx.1
    have q : ∀ b, b < 1000 → (sg (s :: r) = Int32.ofNat b ↔ s = b) := fun b hb => n_eq (by omega) (by omega)
    refine ⟨fun x => ?_, fun x1 => ⟨fun x => ?_, fun x2 => ⟨fun x => ?_, fun x3 => ⟨fun x => ?_, fun x4 => ⟨fun x => ?_, fun x5 => ?_⟩⟩⟩⟩⟩
    · have e := (q 98 (by decide)).mp x
      exact t_25b (d := d) ht (by rw [e]; rfl) hx hB hr h0 h1
    · have e := (q 102 (by decide)).mp x
      exact t_25n (d := d + 16) (w := 2) (a := 12) ht (by decide) rfl (by rw [e]; rfl) (by decide) hx hB h0 h1
    · have e := (q 104 (by decide)).mp x
      exact t_25n (d := d + 16) (w := 0) (a := 10) ht (by decide) rfl (by rw [e]; rfl) (by decide) hx hB h0 h1
    · have e := (q 108 (by decide)).mp x
      exact t_25n (d := d + 16) (w := 1) (a := 11) ht (by decide) rfl (by rw [e]; rfl) (by decide) hx hB h0 h1
    · have e := (q 119 (by decide)).mp x
      exact t_25w (d := d) ht (by rw [e]; rfl) hx hB hr h10 h0 h1
    · exact bad (pCl_no (wFst_no s hs (fun e => x1 ((q 98 (by decide)).mpr e)) (fun e => x2 ((q 102 (by decide)).mpr e)) (fun e => x3 ((q 104 (by decide)).mpr e)) (fun e => x4 ((q 108 (by decide)).mpr e)) (fun e => x5 ((q 119 (by decide)).mpr e))))
theorem iPB_nil (ht : iPc t) (c : zI) : iPB t (zu (zu (zu (zu (zu (zu c t 0 2) t 1 1) t 2 0) t 3 0) t 5 0) t 8 0) [] := by
  refine ⟨⟨⟨?_, ?_, ?_, ?_⟩, ⟨zu_eq, Nat.zero_le _⟩, trivial, Nat.zero_le _⟩, ?_⟩
  · rw [zu_nk (by decide), zu_nk (by decide), zu_nk (by decide), zu_nk (by decide), zu_nk (by decide), zu_eq]; rfl
  · rw [zu_nk (by decide), zu_nk (by decide), zu_nk (by decide), zu_nk (by decide), zu_eq]; rfl
  · rw [zu_nk (by decide), zu_nk (by decide), zu_nk (by decide), zu_eq]; rfl
  · rw [zu_nk (by decide), zu_nk (by decide), zu_eq]; rfl
  · rw [zu_nk (by decide), zu_eq]; rfl
/-- behind a clause -/
theorem t_23_13 {Q : zQ} {c0 : zI} (ht : iPc t) : ∀ (j x2 : Nat) (l : List Nat) (cs : List pCl) (c : zI), x2 + j = 10 → cs.length + 1 = x2 → (aTk (wCl cs)).length + l.length ≤ n → fPa t c0 c →
    ((pClause l).1 = false → rS c n false (pClause l).2.1) → ((pClause l).1 = true → rS c n true (pClause l).2.1 ∧ iPB t c (cs ++ [(pClause l).2.2])) →
    ((pText (j + 1) l).1 = false → ∀ c', fPa t c0 c' → Q (some (.int (Int32.ofNat (n - (pText (j + 1) l).2.1.length)))) (zu c' 25 1 0) lc) →
    ((pText (j + 1) l).1 = true → ∀ c', fPa t c0 c' → iPB t c' (cs ++ (pText (j + 1) l).2.2) → Q (some (.int (-1))) (zu c' 25 1 0) lc) →
    Wf (d + 24) 23 13 [.ref 25, .ref t, .int (Int32.ofNat x2)] [] (zCS ++ X) (zCR fr nx P) c lc Q := by
  intro j
  induction j with
  | zero =>
    intro x2 l cs c e el hr hf b0 b1 h0 h1
    refine B_23_13 t _ ht ⟨fun _ => ?_, fun x => absurd ((n_le (a := 10) (by decide) (by omega)).mpr (by omega)) x⟩
    by_cases o : (pClause l).1 = true
    · obtain ⟨hx, hB⟩ := b1 o
      refine ⟨fun z => absurd hx.2 z, fun _ => ⟨fun z => ?_, fun z => ?_⟩⟩
      · have ep : pText 1 l = (false, (pClause l).2.1, []) := by
          rw [pText, if_neg (by rw [o]; exact Bool.noConfusion)]
          have hne : ¬ (pClause l).2.1 = [] := fun q => z (by rw [hx.1.2.1, hx.1.2.2.1, q]; rfl)
          generalize (pClause l).2.1 = Y at hne
          match Y, hne with
          | [], hne => exact absurd rfl hne
          | c :: r, _ => simp
        rw [ep] at h0
        rw [hx.1.2.1]
        exact h0 rfl c hf
      · have z := Decidable.not_not.mp z
        rw [hx.1.2.1, hx.1.2.2.1] at z
        have hl := hx.1.1
        have := (n_eq (by omega) (by omega)).mp z
        have hnil : (pClause l).2.1 = [] := List.length_eq_zero_iff.mp (by omega)
        have ep : pText 1 l = (true, [], [(pClause l).2.2]) := by
          rw [pText, if_neg (by rw [o]; exact Bool.noConfusion), hnil]
        rw [ep] at h1
        exact h1 rfl c hf hB
    · rw [Bool.not_eq_true] at o
      have hx := b0 o
      have ep : pText 1 l = (false, (pClause l).2.1, []) := by rw [pText, if_pos o]
      rw [ep] at h0
      refine ⟨fun _ => ?_, fun z => absurd (show c 25 3 ≠ 0 by rw [hx.2]; decide) z⟩
      rw [hx.1.2.1]
      exact h0 rfl c hf
  | succ j ih =>
    intro x2 l cs c e el hr hf b0 b1 h0 h1
    refine B_23_13 t _ ht ⟨fun x => absurd ((n_le (a := 10) (by decide) (by omega)).mp x) (by omega), fun _ => ?_⟩
    by_cases o : (pClause l).1 = true
    · obtain ⟨hx, hB⟩ := b1 o
      have hl := hx.1.1
      have hcl := (pCl_lt l o).2
      refine ⟨fun z => absurd hx.2 z, fun _ => t_26 (d := d + 22) hx.1 ?_⟩
      have key : ∀ Y, (pClause l).2.1 = Y → ((sg Y ≠ 59 → ((c 25 3 ≠ 0 → Q (some (.int (c 25 2))) (zu c 25 1 0) lc) ∧ (¬ c 25 3 ≠ 0 → ((c 25 2 ≠ c 25 1 → Q (some (.int (c 25 2))) (zu c 25 1 0) lc) ∧ (¬ c 25 2 ≠ c 25 1 → Q (some (.int (-1))) (zu c 25 1 0) lc))))) ∧ (¬ sg Y ≠ 59 → TV (d + 23) 25 [.ref 25, .ref t] (zCS ++ X) (zCR fr nx P) (zu c 25 2 (c 25 2 + 1)) lc (fun mi2 ml2 => Wf (d + 24) 23 13 [.ref 25, .ref t, .int (Int32.ofNat x2 + 1)] [] (zCS ++ X) (zCR fr nx P) mi2 ml2 Q))) := by
        intro Y eY
        rw [eY] at hx hl
        have step : pText (j + 1 + 1) l = pRs (j + 1) (pClause l).2.2 Y := by rw [pText_s _ _ o, eY]
        match Y, eY, hx, hl, step with
        | [], eY, hx, hl, step =>
          refine ⟨fun _ => ⟨fun z => absurd hx.2 z, fun _ => ⟨fun z => absurd (by rw [hx.1.2.1, hx.1.2.2.1]; rfl) z, fun _ => ?_⟩⟩, fun z => absurd (show sg [] ≠ 59 by decide) z⟩
          rw [step] at h1
          exact h1 rfl c hf hB
        | s :: r, eY, hx, hl, step =>
          have hs := rT_c hx.1
          simp only [List.length_cons] at hl
          have q : sg (s :: r) = 59 ↔ s = 59 := n_eq (b := 59) (by omega) (by decide)
          refine ⟨fun y => ⟨fun z => absurd hx.2 z, fun _ => ⟨fun z => ?_, fun z => ?_⟩⟩, fun y => ?_⟩
          · have hs59 : j + 1 = 0 ∨ s ≠ 59 := .inr (fun z => y (q.mpr z))
            rw [step, pRs, if_pos hs59] at h0
            rw [hx.1.2.1]
            exact h0 rfl c hf
          · exfalso
            have z := Decidable.not_not.mp z
            rw [hx.1.2.1, hx.1.2.2.1] at z
            have := (n_eq (by omega) (by omega)).mp z
            simp only [List.length_cons] at this
            omega
          · have hs59 : ¬ (j + 1 = 0 ∨ s ≠ 59) := fun z => z.elim (by omega) (fun w => w (q.mp (Decidable.not_not.mp y)))
            rw [step, pRs, if_neg hs59] at h0 h1
            rw [eY, List.length_cons] at hcl
            have hB1 : iPB t (zu c 25 2 (c 25 2 + 1)) (cs ++ [(pClause l).2.2]) := iPB_R ht (fR0_p (.inl rfl) (fR0_rfl c)) hB
            have f1 : fPa t c0 (zu c 25 2 (c 25 2 + 1)) := fPa_tr hf (fR0_P (fR0_p (.inl rfl) (fR0_rfl c)))
            have wt := wTk_le (cs := cs) (x := (pClause l).2.2)
            have hr2 : (aTk (wCl (cs ++ [(pClause l).2.2]))).length + r.length ≤ n := by omega
            have hlen : (cs ++ [(pClause l).2.2]).length = cs.length + 1 := by rw [List.length_append]; rfl
            have rc := ih (x2 + 1) r (cs ++ [(pClause l).2.2])
            rw [n_suc]
            refine t_25 (d := d) ht (rS_tl hx) hB1 hr2 (by omega) (fun o2 c' f' x' => ?_) (fun o2 c' f' x' B' => ?_)
            · refine rc c' (by omega) (by omega) hr2 (fPa_tr f1 f') (fun _ => x') (fun z => absurd z (by rw [o2]; exact Bool.false_ne_true)) (fun z => ?_) (fun z c2 g2 B2 => ?_)
              · rw [if_neg (by rw [z]; exact Bool.false_ne_true)] at h0; exact h0 rfl
              · rw [if_pos z] at h1
                refine h1 rfl c2 g2 ?_
                rw [List.append_assoc] at B2; exact B2
            · refine rc c' (by omega) (by omega) hr2 (fPa_tr f1 f') (fun z => absurd o2 (by rw [z]; exact Bool.false_ne_true)) (fun _ => ⟨x', B'⟩) (fun z => ?_) (fun z c2 g2 B2 => ?_)
              · rw [if_neg (by rw [z]; exact Bool.false_ne_true)] at h0; exact h0 rfl
              · rw [if_pos z] at h1
                refine h1 rfl c2 g2 ?_
                rw [List.append_assoc] at B2; exact B2
      exact key _ rfl
    · rw [Bool.not_eq_true] at o
      have hx := b0 o
      have ep : pText (j + 1 + 1) l = (false, (pClause l).2.1, []) := by rw [pText, if_pos o]
      rw [ep] at h0
      refine ⟨fun _ => ⟨fun _ => ?_, fun z => absurd (show c 25 3 ≠ 0 by rw [hx.2]; decide) z⟩, fun z => absurd (show c 25 3 ≠ 0 by rw [hx.2]; decide) z⟩
      rw [hx.1.2.1]
      exact h0 rfl c hf
/-- the class's text as it lies -/
def rL (c : zI) (L : List Nat) : Prop := L.length ≤ 100 ∧ c 25 1 = Int32.ofNat L.length ∧ ∀ i, i < L.length → c 26 i = Int32.ofNat (L.getD i 0) ∧ L.getD i 0 < 128
/-- but for a parish, and how far the text is -/
def fPx (t : Nat) (c c' : zI) : Prop := ∀ x y, ¬ (x = 25 ∧ (y = 1 ∨ y = 2 ∨ y = 3)) → x ≠ t → x ≠ t + 1 → x ≠ t + 2 → x ≠ t + 3 → x ≠ t + 4 → c' x y = c x y
theorem fPa_X {t : Nat} {a b : zI} (h : fPa t a b) : fPx t a (zu b 25 1 0) := fun x y z z1 z2 z3 z4 z5 => by rw [zu_ne (by omega)]; exact h x y (by omega) z1 z2 z3 z4 z5
/-- readInto -/
theorem t_23 {K : Int32 → zI → zJ → Prop} {L : List Nat} (ht : iPc t) (hL : rL c L)
    (h0 : (pText 10 L).1 = false → ∀ c', fPx t c c' → c' 25 1 = 0 → K (Int32.ofNat (L.length - (pText 10 L).2.1.length)) c' lc)
    (h1 : (pText 10 L).1 = true → ∀ c', fPx t c c' → c' 25 1 = 0 → cPa t c' (pText 10 L).2.2 → K (-1) c' lc) : TI (d + 24) 23 [.ref 25, .ref t] (zCS ++ X) (zCR fr nx P) c lc K := by
  obtain ⟨a, b, e⟩ := hL
  refine TI_of (B_23 t ht ⟨.inl rfl, TV_of (B_24 t ht ?_)⟩)
  have hB := iPB_nil ht (zu (zu c 25 2 0) 25 3 0)
  have t25 : ∀ (u : Nat) (k : Nat), (u = 25 ∨ u = 26) → zu (zu (zu (zu (zu (zu (zu (zu c 25 2 0) 25 3 0) t 0 2) t 1 1) t 2 0) t 3 0) t 5 0) t 8 0 u k = zu (zu c 25 2 0) 25 3 0 u k := fun u k hu => by
    rw [zu_nc (by omega), zu_nc (by omega), zu_nc (by omega), zu_nc (by omega), zu_nc (by omega), zu_nc (by omega)]
  have hf : fPa t c (zu (zu (zu (zu (zu (zu (zu (zu c 25 2 0) 25 3 0) t 0 2) t 1 1) t 2 0) t 3 0) t 5 0) t 8 0) := fPa_put (.inl rfl) (fPa_put (.inl rfl) (fPa_put (.inl rfl) (fPa_put (.inl rfl) (fPa_put (.inl rfl) (fPa_put (.inl rfl) (fR0_P (fR0_p (.inr rfl) (fR0_p (.inl rfl) (fR0_rfl c)))))))))
  have hx : rS (zu (zu (zu (zu (zu (zu (zu (zu c 25 2 0) 25 3 0) t 0 2) t 1 1) t 2 0) t 3 0) t 5 0) t 8 0) L.length true L := by
    refine ⟨⟨⟨Nat.le_refl _, a⟩, ?_, ?_, fun i hi => ?_⟩, ?_⟩
    · rw [t25 25 2 (.inl rfl), zu_nk (by decide), zu_eq, Nat.sub_self]; rfl
    · rw [t25 25 1 (.inl rfl), zu_nk (by decide), zu_nk (by decide)]; exact b
    · rw [t25 26 _ (.inr rfl), zu_nc (by decide), zu_nc (by decide), Nat.sub_self, Nat.zero_add]; exact e i hi
    · rw [t25 25 3 (.inl rfl), zu_eq]; rfl
  have hr : (aTk (wCl [])).length + L.length ≤ L.length := Nat.le_of_eq (Nat.zero_add _)
  generalize zu (zu (zu (zu (zu (zu (zu (zu c 25 2 0) 25 3 0) t 0 2) t 1 1) t 2 0) t 3 0) t 5 0) t 8 0 = c1 at hB hf hx
  have fin := fun (c2 : zI) (f2 : fPa t c1 c2) (b0 : (pClause L).1 = false → rS c2 L.length false (pClause L).2.1) (b1 : (pClause L).1 = true → rS c2 L.length true (pClause L).2.1 ∧ iPB t c2 ([] ++ [(pClause L).2.2])) =>
    t_23_13 (d := d) (X := X) (fr := fr) (nx := nx) (P := P) (lc := lc) (Q := qI K) (n := L.length) (c0 := c) ht 9 1 L [] c2 rfl rfl hr (fPa_tr hf f2) b0 b1 (fun z c' f' => h0 z _ (fPa_X f') zu_eq) (fun z c' f' B' => h1 z _ (fPa_X f') zu_eq (cPa_eq (fun k => zu_nc (by omega)) (fun k => zu_nc (by omega)) (fun k => zu_nc (by omega)) (fun k => zu_nc (by omega)) B'.1))
  exact t_25 (d := d) ht hx hB hr (by decide) (fun o c' f' x' => fin c' f' (fun _ => x') (fun z => absurd z (by rw [o]; exact Bool.false_ne_true))) (fun o c' f' x' B' => fin c' f' (fun z => absurd o (by rw [z]; exact Bool.false_ne_true)) (fun _ => ⟨x', B'⟩))
/-- parish -/
theorem t_22 {K : Int32 → zI → zJ → Prop} {L : List Nat} {p : Nat} (hL : rL c L) (hp : p ≤ 6) (h8 : c 0 8 = Int32.ofNat p)
    (h6 : p = 6 → K (-4) c lc)
    (h0 : ¬ p = 6 → (pText 10 L).1 = false → ∀ c', fPx (44 + 5 * p) c c' → c' 25 1 = 0 → K (-10 - Int32.ofNat (L.length - (pText 10 L).2.1.length)) c' lc)
    (h1 : ¬ p = 6 → (pText 10 L).1 = true → ∀ c', fPx (44 + 5 * p) c c' → c' 25 1 = 0 → cPa (44 + 5 * p) c' (pText 10 L).2.2 → K (Int32.ofNat p) (zu (zu c' 1 6 (Int32.ofNat p)) 0 8 (Int32.ofNat (p + 1))) lc) : TI (d + 25) 22 [.ref 0] (zCS ++ X) (zCR fr nx P) c lc K := by
  refine TI_of (B_22 ?_)
  rw [h8]
  refine ⟨fun x => ?_, fun x => h6 ?_⟩
  · have hlt := (n_lt (b := 6) (by omega) (by decide)).mp x
    have ht : iPc (44 + 5 * p) := by unfold iPc; omega
    rw [n_cl (show p < 2147483648 by omega)]
    have hR : zCR fr nx P 32 p = 44 + 5 * p + 1 := by
      have : p = 0 ∨ p = 1 ∨ p = 2 ∨ p = 3 ∨ p = 4 ∨ p = 5 := by omega
      rcases this with rfl | rfl | rfl | rfl | rfl | rfl <;> rfl
    have e8 : ∀ c', fPx (44 + 5 * p) c c' → c' 0 8 = Int32.ofNat p := fun c' f => by rw [f 0 8 (by omega) (by omega) (by omega) (by omega) (by omega) (by omega)]; exact h8
    refine ⟨n_zin hlt (by decide), by rw [hR]; omega, fun c1 e => ?_⟩
    rw [hR] at e
    obtain rfl : c1 = 44 + 5 * p := by omega
    refine t_23 (d := d) ht hL (fun o c' f' z => ?_) (fun o c' f' z B' => ?_)
    · have hl := hL.1
      refine ⟨fun y => absurd ((n_lt (b := 0) (by omega) (by decide)).mp y) (by omega), fun _ => h0 (by omega) o c' f' z⟩
    · refine ⟨fun _ => ?_, fun y => absurd (show (-1 : Int32) < 0 by decide) y⟩
      rw [e8 c' f', n_suc]
      exact h1 (by omega) o c' f' z B'
  · exact Nat.le_antisymm hp (Nat.le_of_not_lt (fun z => x ((n_lt (b := 6) (by omega) (by decide)).mpr z)))
end TEXTC
