/-! pick: by lot, by score. -/
section PICKS
variable {d : Nat} {X : zS} {fr nx : Nat} {P : zR0} {c : zI} {lc : zJ}
theorem t_69_28 {Q : zQ} {b e pl : Nat} {S : Nat → Prop} [DecidablePred S] (hb : iSc b) (he : iPc e) (h1 : ∀ g, S g → 1 ≤ g) (hpl : pl < (gl S 32).length) (h : Q (some (.int (Int32.ofNat ((gl S 32).getD pl 0)))) c lc) : ∀ j g : Nat, g + j = 32 → 1 ≤ g → (gl S g).length ≤ pl → Wf (d + 1) 69 28 [.retAddr 0, .retAddr 0, .retAddr 0, .retAddr 0, .retAddr 0, .int (Int32.ofNat (bN S 32)), .retAddr 0, .int (Int32.ofNat (pl - (gl S g).length)), .int (Int32.ofNat g)] [] (zCS ++ X) (zCR fr nx P) c lc Q
  | 0, g, q, hg1, hl => by
    obtain rfl : g = 32 := by omega
    omega
  | j + 1, g, q, hg1, hl => by
    have hg : g < 32 := by omega
    have ih := t_69_28 hb he h1 hpl h j (g + 1) (by omega) (by omega)
    rw [gl_suc] at ih
    have ll : (gl S 32).length ≤ 31 := gl_len S 31
    refine B_69_28 b e _ _ _ hb he ⟨fun x => absurd ((n_le (a := 32) (by decide) (by omega)).mp x) (by omega), fun _ => ⟨fun x => ?_, fun x => ?_⟩⟩
    · rw [n_bit0 _ _ hg, bN_bit, decide_eq_false_iff_not] at x
      rw [if_neg (fun z => x ⟨hg, z.2⟩)] at ih
      rw [n_suc]; exact ih hl
    · have x : S g := by
        rw [n_bit0 _ _ hg, bN_bit, decide_eq_false_iff_not] at x
        exact (Decidable.not_not.mp x).2
      rw [if_pos ⟨hg1, x⟩, List.length_append] at ih
      refine ⟨fun y => ?_, fun y => ?_⟩
      · have y : pl - (gl S g).length ≠ 0 := fun z => y (by rw [z]; rfl)
        have e2 : Int32.ofNat (pl - (gl S g).length) + (-1) = Int32.ofNat (pl - ((gl S g).length + [g].length)) := by
          have : pl - (gl S g).length = (pl - ((gl S g).length + [g].length)) + 1 := by simp only [List.length_cons, List.length_nil]; omega
          rw [this, Int32.ofNat_add, Int32.add_assoc]
          exact Int32.add_zero _
        rw [e2, n_suc]
        exact ih (by simp only [List.length_cons, List.length_nil]; omega)
      · have y : pl = (gl S g).length := by
          have := (n_eq (b := 0) (by omega) (by decide)).mp (Decidable.not_not.mp y)
          omega
        rw [y, gl_at hg1 x hg] at h
        exact h
/-- Lot.pick -/
theorem t_69 {K : Int32 → zI → zJ → Prop} {t b e v j cr : Nat} {a : Int32} {S : Nat → Prop} [DecidablePred S] (hb : iSc b) (he : iPc e) (h1 : ∀ g, S g → 1 ≤ g) (hz : zand (zhas [2, 9] (zk (zCS ++ X) t)) (Nat.blt 1 (zn (zCS ++ X) t)) = true) (hv : c t 1 = Int32.ofNat v) (hc : c b 4 = Int32.ofNat cr) (v9 : v < 10) (cr9 : cr ≤ 100000)
    (tg : ztg (zCS ++ X) 67 [.ref t, .int a] = some j) (tl : (zarg [.ref t, .int a]).length ≤ (zM j).1) (H : ∀ K' : Int32 → zI → zJ → Prop, K' (Int32.ofNat (bN S 32)) c lc → TI (d + 1) j [.ref t, .int a] (zCS ++ X) (zCR fr nx P) c lc K')
    (h : K (aNone (if gl S 32 = [] then 0 else (gl S 32).getD ((v + cr) % (gl S 32).length) 0)) c lc) : TI (d + 2) 69 [.ref t, .int a, .ref b, .ref e, .ref 17] (zCS ++ X) (zCR fr nx P) c lc K := by
  refine TI_of (B_69 t a b e hb he ⟨j, tg, tl, H _ ?_⟩)
  have hlt : bN S 32 < 4294967296 := bN_lt S 32
  refine t_50 hlt ?_
  rw [pc_gl h1 32 (Nat.le_refl _)]
  have ll : (gl S 32).length ≤ 31 := gl_len S 31
  refine ⟨fun x => ⟨hz, ?_, ?_⟩, fun x => ?_⟩
  · intro z
    have := (n_eq (b := 0) (by omega) (by decide)).mp z
    rw [this] at x
    exact absurd x (by decide)
  · have pos : 1 ≤ (gl S 32).length := (n_le (a := 1) (by decide) (by omega)).mp x
    have ne : gl S 32 ≠ [] := fun z => by rw [z] at pos; exact absurd pos (by decide)
    rw [hv, hc, n_add, n_mod (by omega) (by omega)]
    rw [if_neg ne] at h
    have hmem : (gl S 32).getD ((v + cr) % (gl S 32).length) 0 ∈ gl S 32 := by
      rw [List.getD_eq_getElem?_getD, List.getElem?_eq_getElem (Nat.mod_lt _ pos)]
      exact List.getElem_mem _
    have hp := ((gl_mem S _ 32).mp hmem).2.1
    unfold aNone at h
    rw [if_neg (by omega)] at h
    have e0 : gl S 1 = [] := by rw [gl_suc, if_neg (fun q => absurd q.1 (by decide))]; rfl
    have q := t_69_28 (d := d + 1) (X := X) (fr := fr) (nx := nx) (P := P) (Q := qI K) (S := S) hb he h1 (Nat.mod_lt (v + cr) pos) h 31 1 rfl (by decide) (by rw [e0]; exact Nat.zero_le _)
    rw [e0] at q
    exact q
  · have : (gl S 32).length = 0 := Decidable.byContradiction fun z => x ((n_le (a := 1) (by decide) (by omega)).mpr (by omega))
    have : gl S 32 = [] := List.eq_nil_of_length_eq_zero this
    rw [if_pos this] at h
    exact h
/-- pick by score -/
theorem t_73_7 {Q : zQ} {t b e j : Nat} {r : Nat → Int32} {S : Nat → Prop} [DecidablePred S] {I : zI → zJ → Prop} (hb : iSc b) (he : iPc e) (h1 : ∀ g, S g → 1 ≤ g)
    (tg : ∀ g : Nat, ztg (zCS ++ X) 71 [.ref t, .int (Int32.ofNat g), .ref b, .ref e, .ref 17] = some j ∧ (zarg [.ref t, .int (Int32.ofNat g), .ref b, .ref e, .ref 17]).length ≤ (zM j).1)
    (H : ∀ (g : Nat) (c : zI) (lc : zJ) (K' : Int32 → zI → zJ → Prop), g < 32 → S g → I c lc → (∀ c' lc', I c' lc' → K' (r g) c' lc') → TI d j [.ref t, .int (Int32.ofNat g), .ref b, .ref e, .ref 17] (zCS ++ X) (zCR fr nx P) c lc K')
    (h : ∀ c' lc', I c' lc' → Q (some (.int (aNone (pk r (gl S 32))))) c' lc') : ∀ (n g : Nat) (c : zI) (lc : zJ), g + n = 32 → 1 ≤ g → I c lc → Wf (d + 1) 73 7 [.ref t, .int (Int32.ofNat (bN S 32)), .ref b, .ref e, .ref 17, .int (aNone (pk r (gl S g))), .int (if pk r (gl S g) = 0 then 0 else r (pk r (gl S g))), .int (Int32.ofNat g), .retAddr 0] [] (zCS ++ X) (zCR fr nx P) c lc Q
  | 0, g, c, lc, q, hg1, hI => by
    obtain rfl : g = 32 := by omega
    exact B_73_7 b e _ _ _ _ _ hb he ⟨fun _ => h c lc hI, fun x => absurd (show (32 : Int32) ≤ Int32.ofNat 32 by decide) x⟩
  | n + 1, g, c, lc, q, hg1, hI => by
    have hg : g < 32 := by omega
    have ih := fun c' lc' => t_73_7 hb he h1 tg H h n (g + 1) c' lc' (by omega) (by omega)
    rw [gl_suc] at ih
    refine B_73_7 b e _ _ _ _ _ hb he ⟨fun x => absurd ((n_le (a := 32) (by decide) (by omega)).mp x) (by omega), fun _ => ⟨fun x => ?_, fun x => ?_⟩⟩
    · rw [n_bit0 _ _ hg, bN_bit, decide_eq_false_iff_not] at x
      rw [if_neg (fun z => x ⟨hg, z.2⟩)] at ih
      rw [n_suc]; exact ih c lc hI
    · have x : S g := by
        rw [n_bit0 _ _ hg, bN_bit, decide_eq_false_iff_not] at x
        exact (Decidable.not_not.mp x).2
      rw [if_pos ⟨hg1, x⟩, pk_snoc] at ih
      refine ⟨j, (tg g).1, (tg g).2, H g c lc _ hg x hI (fun c' lc' hI' => ?_)⟩
      have ih := ih c' lc' hI'
      rw [n_suc]
      have hlt : pk r (gl S g) < 32 := by
        by_cases z : gl S g = []
        · rw [z]; exact (show (0 : Nat) < 32 by decide)
        · have := ((gl_mem S _ g).mp (pk_mem r (gl S g) z (fun y hy => ((gl_mem S y g).mp hy).2.1))).1
          omega
      have n5 : ∀ b : Nat, b < 32 → (aNone b = -5 ↔ b = 0) := by decide
      have en := n5 _ hlt
      have eg : aNone g = Int32.ofNat g := if_neg (by omega)
      refine ⟨fun y => ?_, fun y => ⟨fun z => ?_, fun z => ?_⟩⟩
      · have e1 : pk1 r (pk r (gl S g)) g = g := if_pos (.inl (en.mp y))
        rw [e1, if_neg (by omega), eg] at ih
        exact ih
      · have y0 : ¬ pk r (gl S g) = 0 := fun w => y (en.mpr w)
        rw [if_neg y0] at z ⊢
        have e1 : pk1 r (pk r (gl S g)) g = pk r (gl S g) := if_neg (fun w => w.elim y0 (fun w => absurd z (Int32.not_le.mpr w)))
        rw [e1, if_neg y0] at ih
        exact ih
      · have y0 : ¬ pk r (gl S g) = 0 := fun w => y (en.mpr w)
        rw [if_neg y0] at z
        have e1 : pk1 r (pk r (gl S g)) g = g := if_pos (.inr (Int32.not_le.mp z))
        rw [e1, if_neg (by omega), eg] at ih
        exact ih
/-- Plan.pick -/
theorem t_73 {K : Int32 → zI → zJ → Prop} {t b e j : Nat} {r : Nat → Int32} {S : Nat → Prop} [DecidablePred S] {I : zI → zJ → Prop} (hb : iSc b) (he : iPc e) (h1 : ∀ g, S g → 1 ≤ g)
    (tg : ∀ g : Nat, ztg (zCS ++ X) 71 [.ref t, .int (Int32.ofNat g), .ref b, .ref e, .ref 17] = some j ∧ (zarg [.ref t, .int (Int32.ofNat g), .ref b, .ref e, .ref 17]).length ≤ (zM j).1)
    (H : ∀ (g : Nat) (c : zI) (lc : zJ) (K' : Int32 → zI → zJ → Prop), g < 32 → S g → I c lc → (∀ c' lc', I c' lc' → K' (r g) c' lc') → TI d j [.ref t, .int (Int32.ofNat g), .ref b, .ref e, .ref 17] (zCS ++ X) (zCR fr nx P) c lc K')
    (hI : I c lc) (h : ∀ c' lc', I c' lc' → K (aNone (pk r (gl S 32))) c' lc') : TI (d + 1) 73 [.ref t, .int (Int32.ofNat (bN S 32)), .ref b, .ref e, .ref 17] (zCS ++ X) (zCR fr nx P) c lc K := by
  refine TI_of (B_73 t _ b e hb he ?_)
  have e0 : gl S 1 = [] := by rw [gl_suc, if_neg (fun q => absurd q.1 (by decide))]; rfl
  have q := t_73_7 (d := d) (X := X) (fr := fr) (nx := nx) (P := P) (Q := qI K) hb he h1 tg H h 31 1 c lc rfl (by decide) hI
  rw [e0] at q
  exact q
end PICKS
