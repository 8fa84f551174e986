/-! The class reads: conditions. -/
def pAdd (u : Nat) (x : pR) : pR := if x.1 = true then (true, x.2.1, x.2.2 ++ [u]) else (false, x.2.1, [])
theorem pBin_seq (u : Nat) (x : pR) (f : List Nat → pR) : pBin u x f = pSeq (pAdd u x) f := by
  unfold pBin pSeq pAdd
  by_cases h : x.1 = true
  · simp only [h, if_true]
    by_cases h2 : (f x.2.1).1 = true
    · simp only [h2, if_true, List.append_assoc, List.singleton_append]
    · rw [if_neg h2, if_neg h2]
  · simp only [h, if_false]; rfl
theorem pPar_sk (x : pR) : pPar x = if (pSk x.1 [41] x.2.1).1 = true then (true, (pSk x.1 [41] x.2.1).2, x.2.2) else (false, (pSk x.1 [41] x.2.1).2, []) := by
  obtain ⟨x1, x2, x3⟩ := x
  unfold pPar pSk
  cases x1 with
  | false => rfl
  | true =>
    match x2 with
    | [] => rfl
    | c :: r =>
      by_cases h : c = 41
      · subst h; rfl
      · simp [pSkip, h]
theorem pAdd_tok {x : pR} {u L : Nat} (h : x.1 = true → x.2.2.length + x.2.1.length ≤ L) : (pAdd u x).1 = true → (pAdd u x).2.2.length + (pAdd u x).2.1.length ≤ L + 1 := by
  unfold pAdd
  by_cases e : x.1 = true
  · rw [if_pos e]
    intro _
    have := h e
    show (x.2.2 ++ [u]).length + x.2.1.length ≤ L + 1
    rw [List.length_append]
    show x.2.2.length + 1 + x.2.1.length ≤ L + 1
    omega
  · rw [if_neg e]; exact fun z => absurd z Bool.false_ne_true
theorem pSeq_tok {x : pR} {f : List Nat → pR} {L : Nat} (h : x.1 = true → x.2.2.length + x.2.1.length ≤ L) (hf : ∀ r, (f r).1 = true → (f r).2.2.length + (f r).2.1.length ≤ r.length) : (pSeq x f).1 = true → (pSeq x f).2.2.length + (pSeq x f).2.1.length ≤ L := by
  unfold pSeq
  by_cases e : x.1 = true
  · rw [if_pos e]
    by_cases e2 : (f x.2.1).1 = true
    · rw [if_pos e2]
      intro _
      have h1 := h e
      have h2 := hf x.2.1 e2
      show (x.2.2 ++ (f x.2.1).2.2).length + (f x.2.1).2.1.length ≤ L
      rw [List.length_append]
      omega
    · rw [if_neg e2]; exact fun z => absurd z Bool.false_ne_true
  · rw [if_neg e]; exact fun z => absurd z Bool.false_ne_true
theorem pPar_tok {x : pR} {L : Nat} (h : x.1 = true → x.2.2.length + x.2.1.length ≤ L) : (pPar x).1 = true → (pPar x).2.2.length + (pPar x).2.1.length ≤ L := by
  obtain ⟨x1, x2, x3⟩ := x
  unfold pPar
  cases x1 with
  | false => exact fun z => absurd z Bool.false_ne_true
  | true =>
    have h := h rfl
    simp only [if_true]
    match x2, h with
    | [], h => exact fun z => absurd z Bool.false_ne_true
    | c :: r, h =>
      simp only [List.length_cons] at h
      by_cases e : c = 41
      · simp only [e, if_true]; intro _; omega
      · simp only [e, if_false]; exact fun z => absurd z Bool.false_ne_true
theorem pz_tok : ∀ (n mo d : Nat) (l : List Nat), mo ≤ 4 → (pz n mo d l).1 = true → (pz n mo d l).2.2.length + (pz n mo d l).2.1.length ≤ l.length
  | 0, mo, d, l, _, h => absurd h Bool.false_ne_true
  | n + 1, mo, d, l, hm, h => by
    have h5 : mo = 0 ∨ mo = 1 ∨ mo = 2 ∨ mo = 3 ∨ mo = 4 := by omega
    rcases h5 with rfl | rfl | rfl | rfl | rfl
    · match l with
      | [] => exact absurd h Bool.false_ne_true
      | c :: r =>
        rw [pz_F] at h ⊢
        by_cases e : c = 33 ∧ d < 4
        · rw [if_pos e] at h ⊢
          exact pAdd_tok (u := 2) (fun z => pz_tok n 0 (d + 1) r (by decide) z) h
        · rw [if_neg e] at h ⊢
          by_cases e2 : c = 40 ∧ d < 4
          · rw [if_pos e2] at h ⊢
            have := pPar_tok (fun z => pz_tok n 3 (d + 1) r (by decide) z) h
            rw [List.length_cons]; omega
          · rw [if_neg e2] at h ⊢
            obtain ⟨a, u, _, b⟩ := (pTest_len (c :: r)).1 h
            rw [b]
            show 1 + _ ≤ _
            omega
    · rw [pz_T] at h ⊢
      exact pSeq_tok (fun z => pz_tok n 0 d l (by decide) z) (fun r z => pz_tok n 2 d r (by decide) z) h
    · match l with
      | [] => exact Nat.le_refl _
      | c :: r =>
        rw [pz_t] at h ⊢
        by_cases e : c = 38
        · rw [if_pos e, pBin_seq] at h ⊢
          exact pSeq_tok (pAdd_tok (fun z => pz_tok n 0 d r (by decide) z)) (fun r z => pz_tok n 2 d r (by decide) z) h
        · rw [if_neg e]
          exact Nat.le_of_eq (Nat.zero_add _)
    · rw [pz_E] at h ⊢
      exact pSeq_tok (fun z => pz_tok n 1 d l (by decide) z) (fun r z => pz_tok n 4 d r (by decide) z) h
    · match l with
      | [] => exact Nat.le_refl _
      | c :: r =>
        rw [pz_e] at h ⊢
        by_cases e : c = 124
        · rw [if_pos e, pBin_seq] at h ⊢
          exact pSeq_tok (pAdd_tok (fun z => pz_tok n 1 d r (by decide) z)) (fun r z => pz_tok n 4 d r (by decide) z) h
        · rw [if_neg e]
          exact Nat.le_of_eq (Nat.zero_add _)
theorem rX_pre {t k n : Nat} {c c1 c2 : zI} {x : pR} (hf : fR0 c c1) (h : rX t k c1 n x c2) : rX t k c n x c2 := ⟨fEx_tr (Nat.le_refl _) (fR0_E hf) h.1, h.2⟩
theorem rX_nil {t k n : Nat} {c : zI} {l : List Nat} (hx : rS c n true l) (h5 : c t 5 = Int32.ofNat k) (hk : k ≤ 100) : rX t k c n (true, l, []) c := ⟨fEx_rfl _ _ _, hx, fun _ => ⟨h5, trivial⟩, ⟨k, Nat.le_refl _, hk, h5⟩⟩
theorem rX_par {t k n : Nat} {c0 c1 c2 : zI} {x : pR} (ht : iPc t) (h : rX t k c0 n x c1) (hf : fR0 c1 c2) (hs : rS c2 n (pSk x.1 [41] x.2.1).1 (pSk x.1 [41] x.2.1).2) : rX t k c0 n (pPar x) c2 := by
  obtain ⟨a1, a2, a3, s, a4, a5, a6⟩ := h
  have e5 : c2 t 5 = c1 t 5 := hf t 5 (by omega)
  have hE := fEx_tr (Nat.le_refl _) a1 (fR0_E hf)
  rw [pPar_sk]
  by_cases e : (pSk x.1 [41] x.2.1).1 = true
  · rw [if_pos e]
    rw [e] at hs
    have hx : x.1 = true := by
      refine Decidable.byContradiction fun z => ?_
      unfold pSk at e
      rw [if_neg z] at e
      exact Bool.false_ne_true e
    obtain ⟨b1, b2⟩ := a3 hx
    exact ⟨hE, hs, fun _ => ⟨by rw [e5]; exact b1, cSteps_eq _ _ (fun i _ _ => hf _ _ (by omega)) b2⟩, ⟨s, a4, a5, by rw [e5]; exact a6⟩⟩
  · rw [if_neg e]
    rw [Bool.not_eq_true] at e
    rw [e] at hs
    exact ⟨hE, hs, fun z => absurd z Bool.false_ne_true, ⟨s, a4, a5, by rw [e5]; exact a6⟩⟩
section CONDS
variable {X : zS} {fr nx : Nat} {P : zR0} {lc : zJ} {n t : Nat}
theorem t_40x {d k u : Nat} {K : zI → zJ → Prop} {c0 c : zI} {x : pR} (ht : iPc t) (h : rX t k c0 n x c) (hb : x.1 = true → k + x.2.2.length < 100) (hk : ∀ c2, rX t k c0 n (pAdd u x) c2 → K c2 lc) : TV (d + 1) 40 [.ref t, .int (cStep u)] (zCS ++ X) (zCR fr nx P) c lc K := by
  unfold pAdd at hk
  by_cases e : x.1 = true
  · rw [if_pos e] at hk
    have h' : rX t k c0 n (true, x.2.1, x.2.2) c := by
      obtain ⟨x1, x2, x3⟩ := x
      subst e; exact h
    have hb := hb e
    exact t_40 ht (s := k + x.2.2.length) (by omega) (h.2.2.1 e).1 (fun z => by omega) (fun _ => hk _ (rX_add ht h' hb))
  · rw [if_neg e] at hk
    have h' := rX_bad e h
    obtain ⟨-, -, -, s, s1, s2, s3⟩ := h
    exact t_40 ht s2 s3 (fun _ => hk _ h') (fun z => hk _ (rX_addf ht h' s1 z))
theorem t_38_6f {d : Nat} {Q : zQ} {c : zI} {b i : Int32} (ht : iPc t) (hf : ¬ c 25 3 = 0) (h : Q none c lc) : Wf (d + 1) 38 6 [.ref 25, .ref t, .int b, .int i] [] (zCS ++ X) (zCR fr nx P) c lc Q :=
  B_38_6 t _ _ ht ⟨fun _ => h, fun _ => ⟨fun _ => h, fun x => absurd hf x⟩⟩
theorem t_37_6f {d : Nat} {Q : zQ} {c : zI} {b i : Int32} (ht : iPc t) (hf : ¬ c 25 3 = 0) (h : Q none c lc) : Wf (d + 1) 37 6 [.ref 25, .ref t, .int b, .int i] [] (zCS ++ X) (zCR fr nx P) c lc Q :=
  B_37_6 t _ _ ht ⟨fun _ => h, fun _ => ⟨fun _ => h, fun x => absurd hf x⟩⟩
/-- readAny where reading has failed -/
theorem t_37f {d : Nat} {K : zI → zJ → Prop} {c : zI} {b : Int32} (ht : iPc t) (hf : ¬ c 25 3 = 0) (h : K c lc) : TV (d + 3) 37 [.ref 25, .ref t, .int b] (zCS ++ X) (zCR fr nx P) c lc K :=
  TV_of (B_37 t _ ht (TV_of (B_38 t _ ht (TV_of (B_39 t _ ht ⟨fun z => absurd z hf, fun _ => t_38_6f ht hf (t_37_6f ht hf h)⟩)))))
theorem rS_nf {c : zI} {l : List Nat} (h : rS c n false l) : ¬ c 25 3 = 0 := by rw [h.2]; decide
theorem x_read (ht : iPc t) : ∀ f : Nat,
    (∀ (e dp : Nat) (l : List Nat) (k : Nat) (c : zI) (K : zI → zJ → Prop), 5 * l.length + 1 ≤ f → 3 * (4 - dp) ≤ e → dp ≤ 4 → rS c n true l → c t 5 = Int32.ofNat k → k + l.length ≤ n → (∀ c', rX t k c n (pz f 0 dp l) c' → K c' lc) → TV (e + 8) 39 [.ref 25, .ref t, .int (Int32.ofNat dp)] (zCS ++ X) (zCR fr nx P) c lc K) ∧
    (∀ (e dp : Nat) (l : List Nat) (k : Nat) (c : zI) (K : zI → zJ → Prop), 5 * l.length + 2 ≤ f → 3 * (4 - dp) ≤ e → dp ≤ 4 → rS c n true l → c t 5 = Int32.ofNat k → k + l.length ≤ n → (∀ c', rX t k c n (pz f 1 dp l) c' → K c' lc) → TV (e + 9) 38 [.ref 25, .ref t, .int (Int32.ofNat dp)] (zCS ++ X) (zCR fr nx P) c lc K) ∧
    (∀ (e dp i : Nat) (l : List Nat) (k : Nat) (c : zI) (Q : zQ), 5 * l.length + 1 ≤ f → 3 * (4 - dp) ≤ e → dp ≤ 4 → i + l.length ≤ n → rS c n true l → c t 5 = Int32.ofNat k → k + l.length ≤ n → (∀ c', rX t k c n (pz f 2 dp l) c' → Q none c' lc) → Wf (e + 9) 38 6 [.ref 25, .ref t, .int (Int32.ofNat dp), .int (Int32.ofNat i)] [] (zCS ++ X) (zCR fr nx P) c lc Q) ∧
    (∀ (e dp : Nat) (l : List Nat) (k : Nat) (c : zI) (K : zI → zJ → Prop), 5 * l.length + 3 ≤ f → 3 * (4 - dp) ≤ e → dp ≤ 4 → rS c n true l → c t 5 = Int32.ofNat k → k + l.length ≤ n → (∀ c', rX t k c n (pz f 3 dp l) c' → K c' lc) → TV (e + 10) 37 [.ref 25, .ref t, .int (Int32.ofNat dp)] (zCS ++ X) (zCR fr nx P) c lc K) ∧
    (∀ (e dp i : Nat) (l : List Nat) (k : Nat) (c : zI) (Q : zQ), 5 * l.length + 1 ≤ f → 3 * (4 - dp) ≤ e → dp ≤ 4 → i + l.length ≤ n → rS c n true l → c t 5 = Int32.ofNat k → k + l.length ≤ n → (∀ c', rX t k c n (pz f 4 dp l) c' → Q none c' lc) → Wf (e + 10) 37 6 [.ref 25, .ref t, .int (Int32.ofNat dp), .int (Int32.ofNat i)] [] (zCS ++ X) (zCR fr nx P) c lc Q) := by
  intro f
  induction f with
  | zero =>
    refine ⟨?_, ?_, ?_, ?_, ?_⟩
    · intro e dp l k c K h; omega
    · intro e dp l k c K h; omega
    · intro e dp i l k c Q h; omega
    · intro e dp l k c K h; omega
    · intro e dp i l k c Q h; omega
  | succ f ih =>
    obtain ⟨S0, S1, S2, S3, S4⟩ := ih
    refine ⟨?_, ?_, ?_, ?_, ?_⟩
    · -- F
      intro e dp l k c K hf he hd hx h5 hk h
      have n100 := hx.1.1
      have h4 : (4 : Int32) ≤ Int32.ofNat dp ↔ 4 ≤ dp := n_le (a := 4) (by decide) (by omega)
      have test : pz (f + 1) 0 dp l = pTest l → zTest (e + 7) X fr nx P t c lc (fun mi1 ml1 => qV K none mi1 ml1) := fun q => t_41 (d := e + 1) ht hx h5 hk (fun c' r => h c' (by rw [q]; exact r))
      refine TV_of (B_39 t _ ht ⟨fun _ => ?_, fun z => absurd hx.2 z⟩)
      match l, hf, hx, hk, h, test with
      | [], hf, hx, hk, h, test =>
        have tt := test rfl
        refine ⟨fun _ => ⟨fun _ => tt, fun _ => t_26 hx.1 ⟨fun _ => tt, fun z => absurd (show sg [] ≠ 40 by decide) z⟩⟩, fun _ => t_26 hx.1 ⟨fun _ => ⟨fun _ => tt, fun _ => t_26 hx.1 ⟨fun _ => tt, fun z => absurd (show sg [] ≠ 40 by decide) z⟩⟩, fun z => absurd (show sg [] ≠ 33 by decide) z⟩⟩
      | s :: r, hf, hx, hk, h, test =>
        simp only [List.length_cons] at hf hk
        have hs := rT_c hx.1
        have q33 : sg (s :: r) = 33 ↔ s = 33 := n_eq (b := 33) (by omega) (by decide)
        have q40 : sg (s :: r) = 40 ↔ s = 40 := n_eq (b := 40) (by omega) (by decide)
        rw [pz_F] at h test
        have f1 : fR0 c (zu c 25 2 (c 25 2 + 1)) := fR0_p (.inl rfl) (fR0_rfl c)
        have x1 := rS_tl hx
        have e5 : zu c 25 2 (c 25 2 + 1) t 5 = Int32.ofNat k := by rw [zu_nc (by omega)]; exact h5
        have ed : Int32.ofNat dp + 1 = Int32.ofNat (dp + 1) := n_suc dp
        refine ⟨fun z => ?_, fun z => ?_⟩
        · have hd4 : ¬ dp < 4 := by have := h4.mp z; omega
          have tt := test (by rw [if_neg (fun q => hd4 q.2), if_neg (fun q => hd4 q.2)])
          exact ⟨fun _ => tt, fun y => absurd z y⟩
        · have hd4 : dp < 4 := Nat.lt_of_not_le (fun q => z (h4.mpr q))
          obtain ⟨e', rfl⟩ : ∃ e', e = e' + 3 := ⟨e - 3, by omega⟩
          refine t_26 hx.1 ⟨fun y => ⟨fun q => absurd q z, fun _ => t_26 hx.1 ⟨fun y2 => ?_, fun y2 => ?_⟩⟩, fun y => ?_⟩
          · exact test (by rw [if_neg (fun q => y (q33.mpr q.1)), if_neg (fun q => y2 (q40.mpr q.1))])
          · have s40 := q40.mp (Decidable.not_not.mp y2)
            rw [if_neg (fun q => y (q33.mpr q.1)), if_pos ⟨s40, hd4⟩] at h
            rw [ed]
            refine S3 e' (dp + 1) r k _ _ (by omega) (by omega) (by omega) x1 e5 (by omega) (fun c2 hX => t_35 (d := e' + 8) (s := 41) (by decide) hX.2.1 (fun c3 f3 x3 => ?_))
            exact h c3 (rX_par ht (rX_pre f1 hX) f3 x3)
          · have s33 := q33.mp (Decidable.not_not.mp y)
            rw [if_pos ⟨s33, hd4⟩] at h
            rw [ed]
            refine S0 (e' + 2) (dp + 1) r k _ _ (by omega) (by omega) (by omega) x1 e5 (by omega) (fun c2 hX => ?_)
            exact t_40x (d := e' + 9) (u := 2) ht (rX_pre f1 hX) (fun o => by have := pz_tok f 0 (dp + 1) r (by decide) o; omega) h
    · -- T
      intro e dp l k c K hf he hd hx h5 hk h
      rw [pz_T] at h
      have n100 := hx.1.1
      refine TV_of (B_38 t _ ht (S0 e dp l k c _ (by omega) he hd hx h5 hk (fun c1 hX => ?_)))
      by_cases o : (pz f 0 dp l).1 = true
      · have hl := (pz_len f 0 dp l (by decide)).2
        have htk := pz_tok f 0 dp l (by decide) o
        have hx1 := hX.2.1
        rw [o] at hx1
        exact S2 e dp 0 _ _ c1 _ (by omega) he hd (by omega) hx1 (hX.2.2.1 o).1 (by omega) (fun c2 hX2 => h c2 (rX_seq ht o hX hX2))
      · have hb := rX_bad o hX
        refine t_38_6f ht (rS_nf hb.2.1) (h c1 ?_)
        unfold pSeq
        rw [if_neg o]; exact hb
    · -- behind an F
      intro e dp i l k c Q hf he hd hi hx h5 hk h
      have n100 := hx.1.1
      have stop : pz (f + 1) 2 dp l = (true, l, []) → Q none c lc := fun q => h c (by rw [q]; exact rX_nil hx h5 (by omega))
      refine B_38_6 t _ _ ht ⟨fun z => ?_, fun z => ⟨fun y => absurd hx.2 y, fun _ => t_26 hx.1 ⟨fun y => ?_, fun y => ?_⟩⟩⟩
      · have := (n_le (a := 100) (by decide) (by omega)).mp z
        have hl0 : l = [] := List.eq_nil_of_length_eq_zero (by omega)
        exact stop (by rw [hl0, pz_t0])
      · refine stop ?_
        match l, y with
        | [], _ => rw [pz_t0]
        | s :: r, y =>
          rw [pz_t, if_neg (fun q => y (by rw [q]; rfl))]
      · obtain ⟨r, rfl⟩ := (rsg_eq (s := 38) hx.1 (by decide)).mp (Decidable.not_not.mp y)
        simp only [List.length_cons] at hf hk hi
        rw [pz_t, if_pos rfl, pBin_seq] at h
        have f1 : fR0 c (zu c 25 2 (c 25 2 + 1)) := fR0_p (.inl rfl) (fR0_rfl c)
        have e5 : zu c 25 2 (c 25 2 + 1) t 5 = Int32.ofNat k := by rw [zu_nc (by omega)]; exact h5
        refine S0 e dp r k _ _ (by omega) he hd (rS_tl hx) e5 (by omega) (fun c1 hX => ?_)
        have hb : (pz f 0 dp r).1 = true → k + (pz f 0 dp r).2.2.length < 100 := fun o => by have := pz_tok f 0 dp r (by decide) o; omega
        refine t_40x (d := e + 7) (u := 0) ht (rX_pre f1 hX) hb (fun c2 hX2 => ?_)
        rw [n_suc]
        by_cases o : (pz f 0 dp r).1 = true
        · have ea : pAdd 0 (pz f 0 dp r) = (true, (pz f 0 dp r).2.1, (pz f 0 dp r).2.2 ++ [0]) := by unfold pAdd; rw [if_pos o]
          have hl := (pz_len f 0 dp r (by decide)).2
          have htk := pz_tok f 0 dp r (by decide) o
          rw [ea] at hX2 h
          have o2 := hX2.2.2.1 rfl
          refine S2 e dp (i + 1) (pz f 0 dp r).2.1 (k + ((pz f 0 dp r).2.2 ++ [0]).length) c2 _ (by omega) he hd (by omega) hX2.2.1 o2.1 ?_ (fun c3 hX3 => h c3 (rX_seq ht rfl hX2 hX3))
          show k + ((pz f 0 dp r).2.2 ++ [0]).length + (pz f 0 dp r).2.1.length ≤ n
          rw [List.length_append]
          show k + ((pz f 0 dp r).2.2.length + 1) + _ ≤ n
          omega
        · have ea : pAdd 0 (pz f 0 dp r) = (false, (pz f 0 dp r).2.1, []) := by unfold pAdd; rw [if_neg o]
          rw [ea] at hX2 h
          exact t_38_6f ht (rS_nf hX2.2.1) (h c2 hX2)
    · -- E
      intro e dp l k c K hf he hd hx h5 hk h
      rw [pz_E] at h
      have n100 := hx.1.1
      refine TV_of (B_37 t _ ht (S1 e dp l k c _ (by omega) he hd hx h5 hk (fun c1 hX => ?_)))
      by_cases o : (pz f 1 dp l).1 = true
      · have hl := (pz_len f 1 dp l (by decide)).2
        have htk := pz_tok f 1 dp l (by decide) o
        have hx1 := hX.2.1
        rw [o] at hx1
        exact S4 e dp 0 _ _ c1 _ (by omega) he hd (by omega) hx1 (hX.2.2.1 o).1 (by omega) (fun c2 hX2 => h c2 (rX_seq ht o hX hX2))
      · have hb := rX_bad o hX
        refine t_37_6f ht (rS_nf hb.2.1) (h c1 ?_)
        unfold pSeq
        rw [if_neg o]; exact hb
    · -- behind a T
      intro e dp i l k c Q hf he hd hi hx h5 hk h
      have n100 := hx.1.1
      have stop : pz (f + 1) 4 dp l = (true, l, []) → Q none c lc := fun q => h c (by rw [q]; exact rX_nil hx h5 (by omega))
      refine B_37_6 t _ _ ht ⟨fun z => ?_, fun z => ⟨fun y => absurd hx.2 y, fun _ => t_26 hx.1 ⟨fun y => ?_, fun y => ?_⟩⟩⟩
      · have := (n_le (a := 100) (by decide) (by omega)).mp z
        have hl0 : l = [] := List.eq_nil_of_length_eq_zero (by omega)
        exact stop (by rw [hl0, pz_e0])
      · refine stop ?_
        match l, y with
        | [], _ => rw [pz_e0]
        | s :: r, y =>
          rw [pz_e, if_neg (fun q => y (by rw [q]; rfl))]
      · obtain ⟨r, rfl⟩ := (rsg_eq (s := 124) hx.1 (by decide)).mp (Decidable.not_not.mp y)
        simp only [List.length_cons] at hf hk hi
        rw [pz_e, if_pos rfl, pBin_seq] at h
        have f1 : fR0 c (zu c 25 2 (c 25 2 + 1)) := fR0_p (.inl rfl) (fR0_rfl c)
        have e5 : zu c 25 2 (c 25 2 + 1) t 5 = Int32.ofNat k := by rw [zu_nc (by omega)]; exact h5
        refine S1 e dp r k _ _ (by omega) he hd (rS_tl hx) e5 (by omega) (fun c1 hX => ?_)
        have hb : (pz f 1 dp r).1 = true → k + (pz f 1 dp r).2.2.length < 100 := fun o => by have := pz_tok f 1 dp r (by decide) o; omega
        refine t_40x (d := e + 8) (u := 1) ht (rX_pre f1 hX) hb (fun c2 hX2 => ?_)
        rw [n_suc]
        by_cases o : (pz f 1 dp r).1 = true
        · have ea : pAdd 1 (pz f 1 dp r) = (true, (pz f 1 dp r).2.1, (pz f 1 dp r).2.2 ++ [1]) := by unfold pAdd; rw [if_pos o]
          have hl := (pz_len f 1 dp r (by decide)).2
          have htk := pz_tok f 1 dp r (by decide) o
          rw [ea] at hX2 h
          have o2 := hX2.2.2.1 rfl
          refine S4 e dp (i + 1) (pz f 1 dp r).2.1 (k + ((pz f 1 dp r).2.2 ++ [1]).length) c2 _ (by omega) he hd (by omega) hX2.2.1 o2.1 ?_ (fun c3 hX3 => h c3 (rX_seq ht rfl hX2 hX3))
          show k + ((pz f 1 dp r).2.2 ++ [1]).length + (pz f 1 dp r).2.1.length ≤ n
          rw [List.length_append]
          show k + ((pz f 1 dp r).2.2.length + 1) + _ ≤ n
          omega
        · have ea : pAdd 1 (pz f 1 dp r) = (false, (pz f 1 dp r).2.1, []) := by unfold pAdd; rw [if_neg o]
          rw [ea] at hX2 h
          exact t_37_6f ht (rS_nf hX2.2.1) (h c2 hX2)
/-- readAny of a condition -/
theorem t_37 {d k : Nat} {K : zI → zJ → Prop} {c : zI} {l : List Nat} (ht : iPc t) (hx : rS c n true l) (h5 : c t 5 = Int32.ofNat k) (hk : k + l.length ≤ n) (h : ∀ c', rX t k c n (pz pFu 3 0 l) c' → K c' lc) : TV (d + 22) 37 [.ref 25, .ref t, .int 0] (zCS ++ X) (zCR fr nx P) c lc K :=
  (x_read (n := n) (lc := lc) (X := X) (fr := fr) (nx := nx) (P := P) ht pFu).2.2.2.1 (d + 12) 0 l k c K (by have := hx.1.1; unfold pFu; omega) (by omega) (by decide) hx h5 hk h
end CONDS
