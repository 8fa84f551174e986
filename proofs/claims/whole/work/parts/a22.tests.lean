/-! The class reads: tests, steps. -/
theorem pLet_tab : ∀ s : Nat, s < 128 → ∀ i : Nat, i < 6 → (s = pLet.getD i 0 ↔ pIn pLet s = i) := by decide +kernel
theorem pSig_tab : ∀ s : Nat, s < 128 → ∀ i : Nat, i < 3 → (s = pSig.getD i 0 ↔ pIn pSig s = i) := by decide +kernel
theorem pI_tab {a s i : Nat} (ha : a = 14 ∨ a = 15) (hs : s < 128) (hi : i < (wTx a).length) : s = (wTx a).getD i 0 ↔ pIn (wTx a) s = i := by
  rcases ha with rfl | rfl
  · exact pLet_tab s hs i hi
  · exact pSig_tab s hs i hi
/-- the place of the next sign: whether there is one, what is left, the place -/
def pPl (a : Nat) (l : List Nat) : Bool × List Nat × Nat := match l with
  | [] => (false, [], 0)
  | s :: r => if pIn (wTx a) s < (wTx a).length then (true, r, pIn (wTx a) s) else (false, s :: r, 0)
def fEx (t k0 : Nat) (c c' : zI) : Prop := ∀ x y, ¬ (x = 25 ∧ (y = 2 ∨ y = 3)) → ¬ (x = t ∧ y = 5) → ¬ (x = t + 1 ∧ k0 ≤ y) → c' x y = c x y
theorem fEx_rfl (t k0 : Nat) (c : zI) : fEx t k0 c c := fun _ _ _ _ _ => rfl
theorem fEx_tr {t k0 k1 : Nat} {a b e : zI} (hk : k0 ≤ k1) (h : fEx t k0 a b) (q : fEx t k1 b e) : fEx t k0 a e := fun x y z1 z2 z3 => by rw [q x y z1 z2 (by omega), h x y z1 z2 z3]
theorem fR0_E {t k0 : Nat} {a b : zI} (h : fR0 a b) : fEx t k0 a b := fun x y z _ _ => h x y z
/-- what reading a condition leaves: tokens as steps from k0 on -/
def rX (t k0 : Nat) (c0 : zI) (n : Nat) (x : pR) (c : zI) : Prop := fEx t k0 c0 c ∧ rS c n x.1 x.2.1 ∧ (x.1 = true → c t 5 = Int32.ofNat (k0 + x.2.2.length) ∧ cSteps c t k0 x.2.2) ∧ ∃ s, k0 ≤ s ∧ s ≤ 100 ∧ c t 5 = Int32.ofNat s
theorem cSteps_snoc {c : zI} {t u : Nat} : ∀ {l : List Nat} {k : Nat}, cSteps c t k l → c (t + 1) (k + l.length) = cStep u → cSteps c t k (l ++ [u])
  | [], k, _, h => ⟨h, trivial⟩
  | _ :: l, k, q, h => ⟨q.1, cSteps_snoc q.2 (by simp only [List.length_cons] at h; rw [← h]; congr 1; omega)⟩
theorem cSteps_app {c : zI} {t : Nat} : ∀ {l l' : List Nat} {k : Nat}, cSteps c t k l → cSteps c t (k + l.length) l' → cSteps c t k (l ++ l')
  | [], _, _, _, h => h
  | _ :: l, l', k, q, h => ⟨q.1, cSteps_app q.2 (by simp only [List.length_cons] at h; rw [show k + 1 + l.length = k + (l.length + 1) by omega]; exact h)⟩
theorem rS_eq {c c' : zI} {n : Nat} {ok : Bool} {l : List Nat} (h : ∀ k, c' 25 k = c 25 k) (h2 : ∀ k, c' 26 k = c 26 k) (q : rS c n ok l) : rS c' n ok l := ⟨rT_eq (h 2) (h 1) h2 q.1, by rw [h]; exact q.2⟩
theorem rX_add {t k0 n u : Nat} {c0 c : zI} {r tk : List Nat} (ht : iPc t) (h : rX t k0 c0 n (true, r, tk) c) (hb : k0 + tk.length < 100) : rX t k0 c0 n (true, r, tk ++ [u]) (zu (zu c (t + 1) (k0 + tk.length) (cStep u)) t 5 (Int32.ofNat (k0 + tk.length + 1))) := by
  obtain ⟨h1, h2, h3, h4⟩ := h
  obtain ⟨h5, h6⟩ := h3 rfl
  refine ⟨fun x y z1 z2 z3 => ?_, rS_eq (fun k => ?_) (fun k => ?_) h2, fun _ => ⟨?_, ?_⟩, ⟨k0 + tk.length + 1, by omega, by omega, by rw [zu_eq]⟩⟩
  · rw [zu_ne z2, zu_ne (by omega)]; exact h1 x y z1 z2 z3
  · rw [zu_nc (by omega), zu_nc (by omega)]
  · rw [zu_nc (by omega), zu_nc (by omega)]
  · rw [zu_eq, List.length_append]; rfl
  · refine cSteps_snoc (cSteps_eq _ _ (fun i _ hi => ?_) h6) ?_
    · rw [zu_nc (by omega), zu_nk (by omega)]
    · rw [zu_nc (by omega), zu_eq]
theorem rX_addf {t k0 n s : Nat} {c0 c : zI} {r tk : List Nat} {v : Int32} (ht : iPc t) (h : rX t k0 c0 n (false, r, tk) c) (hk : k0 ≤ s) (hs : s < 100) : rX t k0 c0 n (false, r, []) (zu (zu c (t + 1) s v) t 5 (Int32.ofNat (s + 1))) := by
  obtain ⟨h1, h2, h3, h4⟩ := h
  refine ⟨fun x y z1 z2 z3 => ?_, rS_eq (fun k => ?_) (fun k => ?_) h2, fun e => absurd e Bool.false_ne_true, ⟨s + 1, by omega, by omega, by rw [zu_eq]⟩⟩
  · rw [zu_ne z2, zu_ne (by omega)]; exact h1 x y z1 z2 z3
  · rw [zu_nc (by omega), zu_nc (by omega)]
  · rw [zu_nc (by omega), zu_nc (by omega)]
theorem rX_seq {t k0 n : Nat} {c0 c1 c2 : zI} {x : pR} {f : List Nat → pR} (ht : iPc t) (hx : x.1 = true) (h1 : rX t k0 c0 n x c1) (h2 : rX t (k0 + x.2.2.length) c1 n (f x.2.1) c2) : rX t k0 c0 n (pSeq x f) c2 := by
  obtain ⟨a1, a2, a3, a4⟩ := h1
  obtain ⟨b1, b2, b3, s, b4, b5, b6⟩ := h2
  obtain ⟨a5, a6⟩ := a3 hx
  have hf := fEx_tr (k1 := k0 + x.2.2.length) (by omega) a1 b1
  unfold pSeq
  rw [if_pos hx]
  by_cases e : (f x.2.1).1 = true
  · rw [if_pos e]
    rw [e] at b2
    obtain ⟨b7, b8⟩ := b3 e
    refine ⟨hf, b2, fun _ => ⟨?_, cSteps_app (cSteps_eq _ _ (fun i _ hi => b1 _ _ (by omega) (by omega) (by omega)) a6) b8⟩, ⟨s, by omega, b5, b6⟩⟩
    rw [b7, List.length_append, Nat.add_assoc]
  · rw [if_neg e]
    rw [Bool.not_eq_true] at e
    rw [e] at b2
    exact ⟨hf, b2, fun z => absurd z Bool.false_ne_true, ⟨s, by omega, b5, b6⟩⟩
theorem rX_bad {t k0 n : Nat} {c0 c : zI} {x : pR} (hx : ¬ x.1 = true) (h : rX t k0 c0 n x c) : rX t k0 c0 n (false, x.2.1, []) c := by
  obtain ⟨a1, a2, a3, a4⟩ := h
  rw [Bool.not_eq_true] at hx
  rw [hx] at a2
  exact ⟨a1, a2, fun z => absurd z Bool.false_ne_true, a4⟩
section TESTSC
variable {d : Nat} {X : zS} {fr nx : Nat} {P : zR0} {c : zI} {lc : zJ} {n : Nat} {l : List Nat}
theorem t_42_2 {Q : zQ} {a : Nat} (ha : a = 14 ∨ a = 15) (hx : rS c n true l) (h : ∀ c', fR0 c c' → rS c' n (pPl a l).1 (pPl a l).2.1 → Q (some (.int (Int32.ofNat (pPl a l).2.2))) c' lc) :
    ∀ (j i : Nat), i + j = (wTx a).length → (∀ s r, l = s :: r → i ≤ pIn (wTx a) s) → Wf (d + 6) 42 2 [.ref 25, .retAddr a, .int (Int32.ofNat i)] [] (zCS ++ X) (zCR fr nx P) c lc Q
  | 0, i, e, hi => by
    have hl := wTx_len a
    refine B_42_2 a _ ha (t_28 (by unfold iWx; omega) ⟨fun _ => ⟨.inr rfl, ?_⟩, fun x => absurd ((n_le (by omega) (by omega)).mpr (by omega)) x⟩)
    have ep : pPl a l = (false, l, 0) := by
      match l, hi with
      | [], _ => rfl
      | s :: r, hi =>
        have := hi s r rfl
        show (if _ then _ else _) = _
        rw [if_neg (by omega)]
    rw [ep] at h
    exact h _ (fR0_p (.inr rfl) (fR0_rfl c)) (rS_fail hx)
  | j + 1, i, e, hi => by
    have hl := wTx_len a
    refine B_42_2 a _ ha (t_28 (by unfold iWx; omega) ⟨fun x => absurd ((n_le (by omega) (by omega)).mp x) (by omega), fun _ => ⟨fun x => absurd hx.2 x, fun _ => t_30 (d := d) (by unfold iWx; omega) (by omega) (t_26 (d := d + 4) hx.1 ?_)⟩⟩)
    have hw := wTx_lt a i
    have hsg := rsg_eq hx.1 hw
    refine ⟨fun x => ?_, fun x => ?_⟩
    · rw [n_suc]
      refine t_42_2 ha hx h j (i + 1) (by omega) (fun s r el => ?_)
      have h1 := hi s r el
      subst el
      have hs := rT_c hx.1
      have := pI_tab ha hs (i := i) (by omega)
      refine Nat.lt_of_le_of_ne h1 (fun z => x ?_)
      exact (hsg.mpr ⟨r, by rw [this.mpr z.symm]⟩).symm
    · obtain ⟨r, el⟩ := hsg.mp (Decidable.not_not.mp x).symm
      subst el
      have hs := rT_c hx.1
      have hp := (pI_tab ha hs (i := i) (by omega)).mp rfl
      have ep : pPl a ((wTx a).getD i 0 :: r) = (true, r, i) := by
        show (if pIn (wTx a) _ < _ then (true, r, pIn (wTx a) _) else _) = _
        rw [hp, if_pos (by omega)]
      rw [ep] at h
      exact h _ (fR0_p (.inl rfl) (fR0_rfl c)) (rS_tl hx)
theorem t_42 {K : Int32 → zI → zJ → Prop} {a : Nat} (ha : a = 14 ∨ a = 15) (hx : rS c n true l) (h : ∀ c', fR0 c c' → rS c' n (pPl a l).1 (pPl a l).2.1 → K (Int32.ofNat (pPl a l).2.2) c' lc) : TI (d + 6) 42 [.ref 25, .retAddr a] (zCS ++ X) (zCR fr nx P) c lc K :=
  TI_of (B_42 a ha (t_42_2 ha hx h (wTx a).length 0 (by omega) (fun _ _ _ => Nat.zero_le _)))
theorem t_42f {K : Int32 → zI → zJ → Prop} {a : Nat} (ha : a = 14 ∨ a = 15) (hx : rS c n false l) (h : ∀ c', fR0 c c' → rS c' n false l → K 0 c' lc) : TI (d + 6) 42 [.ref 25, .retAddr a] (zCS ++ X) (zCR fr nx P) c lc K := by
  have hl := wTx_len a
  have hp : 0 < (wTx a).length := by rcases ha with rfl | rfl <;> decide
  have fin := h _ (fR0_p (.inr rfl) (fR0_rfl c)) (rS_fail hx)
  exact TI_of (B_42 a ha (B_42_2 a _ ha (t_28 (by unfold iWx; omega) ⟨fun _ => ⟨.inr rfl, fin⟩, fun _ => ⟨fun _ => ⟨.inr rfl, fin⟩, fun x => absurd (show c 25 3 ≠ 0 by rw [hx.2]; decide) x⟩⟩)))
theorem t_40 {K : zI → zJ → Prop} {t s : Nat} {v : Int32} (ht : iPc t) (hs : s ≤ 100) (e : c t 5 = Int32.ofNat s) (h0 : s = 100 → K c lc) (h1 : s < 100 → K (zu (zu c (t + 1) s v) t 5 (Int32.ofNat (s + 1))) lc) : TV (d + 1) 40 [.ref t, .int v] (zCS ++ X) (zCR fr nx P) c lc K := by
  refine TV_of (B_40 t _ ht ?_)
  rw [zu_nc (show t ≠ t + 1 by omega), e]
  refine ⟨fun x => h0 ?_, fun x => ?_⟩
  · have := (n_le (a := 100) (by decide) (by omega)).mp x
    omega
  · have hlt : s < 100 := Nat.lt_of_not_le (fun z => x ((n_le (a := 100) (by decide) (by omega)).mpr z))
    refine ⟨n_zin hlt (by decide), ?_⟩
    rw [n_cl (show s < 2147483648 by omega), n_suc]
    exact h1 hlt
theorem pTest_pl (l : List Nat) : pTest l = if (pPl 14 l).1 = true then (if (pPl 15 (pPl 14 l).2.1).1 = true then (if (pNum (pPl 15 (pPl 14 l).2.1).2.1).1 = true then (true, (pNum (pPl 15 (pPl 14 l).2.1).2.1).2.1, [3 + ((3 * (pPl 14 l).2.2 + (pPl 15 (pPl 14 l).2.1).2.2) * 100 + (pNum (pPl 15 (pPl 14 l).2.1).2.1).2.2)]) else (false, (pNum (pPl 15 (pPl 14 l).2.1).2.1).2.1, [])) else (false, (pPl 15 (pPl 14 l).2.1).2.1, [])) else (false, (pPl 14 l).2.1, []) := by
  match l with
  | [] => rfl
  | c :: r =>
    by_cases h1 : pIn pLet c < 6
    · have e1 : pPl 14 (c :: r) = (true, r, pIn pLet c) := by
        show (if pIn pLet c < 6 then _ else _) = _
        rw [if_pos h1]; rfl
      rw [e1, if_pos rfl]
      match r with
      | [] =>
        unfold pTest
        simp only [h1, if_true]
        rfl
      | s :: r2 =>
        by_cases h2 : pIn pSig s < 3
        · have e2 : pPl 15 (s :: r2) = (true, r2, pIn pSig s) := by
            show (if pIn pSig s < 3 then _ else _) = _
            rw [if_pos h2]; rfl
          rw [e2, if_pos rfl]
          unfold pTest
          simp only [h1, h2, if_true]
        · have e2 : pPl 15 (s :: r2) = (false, s :: r2, 0) := by
            show (if pIn pSig s < 3 then _ else _) = _
            rw [if_neg h2]
          rw [e2, if_neg Bool.false_ne_true]
          unfold pTest
          simp only [h1, h2, if_true, if_false]
    · have e1 : pPl 14 (c :: r) = (false, c :: r, 0) := by
        show (if pIn pLet c < 6 then _ else _) = _
        rw [if_neg h1]
      rw [e1, if_neg Bool.false_ne_true]
      unfold pTest
      simp only [h1, if_false]
/-- what readOne does where a test stands -/
abbrev zTest (d : Nat) (X : zS) (fr nx : Nat) (P : zR0) (t : Nat) (c : zI) (lc : zJ) (K : zI → zJ → Prop) : Prop :=
  TI d 42 [.ref 25, .retAddr 14] (zCS ++ X) (zCR fr nx P) c lc (fun v1 mi1 ml1 => TI d 42 [.ref 25, .retAddr 15] (zCS ++ X) (zCR fr nx P) mi1 ml1 (fun v2 mi2 ml2 => TI d 36 [.ref 25] (zCS ++ X) (zCR fr nx P) mi2 ml2 (fun v3 mi3 ml3 => (((mi3 25 3) ≠ 0 → K mi3 ml3) ∧ (¬ (mi3 25 3) ≠ 0 → TV d 40 [.ref t, .int ((((v1 * 3) + v2) * 100) + v3)] (zCS ++ X) (zCR fr nx P) mi3 ml3 (fun mi4 ml4 => K mi4 ml4))))))
theorem t_41 {K : zI → zJ → Prop} {t k : Nat} (ht : iPc t) (hx : rS c n true l) (h5 : c t 5 = Int32.ofNat k) (hk : k + l.length ≤ n) (h : ∀ c', rX t k c n (pTest l) c' → K c' lc) : zTest (d + 6) X fr nx P t c lc K := by
  have hlen := (pTest_len l).1
  have n100 := hx.1.1
  rw [pTest_pl] at h hlen
  have keep : ∀ c', fR0 c c' → ∃ s, k ≤ s ∧ s ≤ 100 ∧ c' t 5 = Int32.ofNat s := fun c' f => ⟨k, Nat.le_refl _, by omega, by rw [f t 5 (by omega)]; exact h5⟩
  refine t_42 (d := d) (.inl rfl) hx (fun c1 f1 x1 => ?_)
  by_cases o1 : (pPl 14 l).1 = true
  · rw [if_pos o1] at h hlen
    rw [o1] at x1
    refine t_42 (d := d) (.inr rfl) x1 (fun c2 f2 x2 => ?_)
    by_cases o2 : (pPl 15 (pPl 14 l).2.1).1 = true
    · rw [if_pos o2] at h hlen
      rw [o2] at x2
      refine t_36 (d := d + 4) x2 (fun c3 f3 x3 => ?_)
      have f := fR0_tr f1 (fR0_tr f2 f3)
      by_cases o3 : (pNum (pPl 15 (pPl 14 l).2.1).2.1).1 = true
      · rw [if_pos o3] at h hlen
        rw [o3] at x3
        obtain ⟨hl, u, hu, eu⟩ := hlen rfl
        have hk3 : c3 t 5 = Int32.ofNat k := by rw [f t 5 (by omega)]; exact h5
        have base : rX t k c n (true, (pNum (pPl 15 (pPl 14 l).2.1).2.1).2.1, []) c3 := ⟨fR0_E f, x3, fun _ => ⟨hk3, trivial⟩, keep c3 f⟩
        have hl : (pNum (pPl 15 (pPl 14 l).2.1).2.1).2.1.length + 3 ≤ l.length := hl
        refine ⟨fun y => absurd x3.2 y, fun _ => ?_⟩
        have ev : ((Int32.ofNat (pPl 14 l).2.2 * 3 + Int32.ofNat (pPl 15 (pPl 14 l).2.1).2.2) * 100) + Int32.ofNat (pNum (pPl 15 (pPl 14 l).2.1).2.1).2.2 = cStep (3 + ((3 * (pPl 14 l).2.2 + (pPl 15 (pPl 14 l).2.1).2.2) * 100 + (pNum (pPl 15 (pPl 14 l).2.1).2.1).2.2)) := by
          have e1 : cStep (3 + ((3 * (pPl 14 l).2.2 + (pPl 15 (pPl 14 l).2.1).2.2) * 100 + (pNum (pPl 15 (pPl 14 l).2.1).2.1).2.2)) = Int32.ofNat ((3 * (pPl 14 l).2.2 + (pPl 15 (pPl 14 l).2.1).2.2) * 100 + (pNum (pPl 15 (pPl 14 l).2.1).2.1).2.2) := by
            rw [Nat.add_comm 3]; rfl
          rw [e1, Nat.mul_comm 3]
          show ((Int32.ofNat _ * Int32.ofNat 3 + Int32.ofNat _) * Int32.ofNat 100) + Int32.ofNat _ = _
          rw [← Int32.ofNat_mul, n_add, ← Int32.ofNat_mul, n_add]
        rw [ev]
        refine t_40 (d := d + 5) ht (by omega) hk3 (fun z => by omega) (fun _ => ?_)
        exact h _ (rX_add ht base (by show k + 0 < 100; omega))
      · rw [if_neg o3] at h
        rw [Bool.not_eq_true] at o3
        rw [o3] at x3
        refine ⟨fun _ => h c3 ⟨fR0_E f, x3, fun z => absurd z Bool.false_ne_true, keep c3 f⟩, fun y => absurd (show c3 25 3 ≠ 0 by rw [x3.2]; decide) y⟩
    · rw [if_neg o2] at h
      rw [Bool.not_eq_true] at o2
      rw [o2] at x2
      refine t_36f (d := d + 4) x2 (fun c3 f3 x3 => ?_)
      have f := fR0_tr f1 (fR0_tr f2 f3)
      exact ⟨fun _ => h c3 ⟨fR0_E f, x3, fun z => absurd z Bool.false_ne_true, keep c3 f⟩, fun y => absurd (show c3 25 3 ≠ 0 by rw [x3.2]; decide) y⟩
  · rw [if_neg o1] at h
    rw [Bool.not_eq_true] at o1
    rw [o1] at x1
    refine t_42f (d := d) (.inr rfl) x1 (fun c2 f2 x2 => t_36f (d := d + 4) x2 (fun c3 f3 x3 => ?_))
    have f := fR0_tr f1 (fR0_tr f2 f3)
    exact ⟨fun _ => h c3 ⟨fR0_E f, x3, fun z => absurd z Bool.false_ne_true, keep c3 f⟩, fun y => absurd (show c3 25 3 ≠ 0 by rw [x3.2]; decide) y⟩
end TESTSC
