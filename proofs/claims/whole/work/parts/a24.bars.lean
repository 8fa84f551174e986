/-! The class: bar, addWorth. -/
theorem cWs_eq2 {c c' : zI} {t : Nat} (h2 : ∀ k, c' (t + 2) k = c (t + 2) k) (h3 : ∀ k, c' (t + 3) k = c (t + 3) k) : ∀ (ws : List pCl) (k a : Nat), (∀ i, a ≤ i → i < a + (aTk ws).length → c' (t + 1) i = c (t + 1) i) → cWs c t k a ws → cWs c' t k a ws
  | [], _, _, _, _ => trivial
  | x :: ws, k, a, h1, q => by
    rw [aTk, List.length_append] at h1
    exact ⟨⟨by rw [h2]; exact q.1.1, by rw [h3]; exact q.1.2.1, cSteps_eq _ _ (fun i e1 e2 => h1 i e1 (by omega)) q.1.2.2⟩, cWs_eq2 h2 h3 ws _ _ (fun i e1 e2 => h1 i (by omega) (by omega)) q.2⟩
theorem cPa_eq2 {c c' : zI} {t : Nat} {cs : List pCl} (h0 : ∀ k, k ≠ 5 → c' t k = c t k) (h1 : ∀ i, i < (aTk (wCl cs)).length → c' (t + 1) i = c (t + 1) i) (h2 : ∀ k, c' (t + 2) k = c (t + 2) k) (h3 : ∀ k, c' (t + 3) k = c (t + 3) k) (q : cPa t c cs) : cPa t c' cs := by
  obtain ⟨⟨a, b, e, f⟩, ⟨g, g2⟩, i, j⟩ := q
  exact ⟨⟨by rw [h0 0 (by decide)]; exact a, by rw [h0 1 (by decide)]; exact b, by rw [h0 2 (by decide)]; exact e, by rw [h0 3 (by decide)]; exact f⟩, ⟨by rw [h0 8 (by decide)]; exact g, g2⟩, cWs_eq2 h2 h3 _ _ _ (fun i _ hi => h1 i (by omega)) i, j⟩
theorem cWs_end {c : zI} {t : Nat} : ∀ (ws : List pCl) (k a : Nat), cWs c t k a ws → 0 < ws.length → c (t + 3) (k + ws.length - 1) = Int32.ofNat (a + (aTk ws).length)
  | [x], k, a, q, _ => by
    show c (t + 3) (k + 1 - 1) = _
    rw [Nat.add_sub_cancel, q.1.2.1, aTk, aTk, List.append_nil]
  | x :: y :: ws, k, a, q, _ => by
    have := cWs_end (y :: ws) (k + 1) (a + x.2.2.length) q.2 (by simp)
    rw [aTk, List.length_append, ← Nat.add_assoc, ← this]
    simp only [List.length_cons]
    congr 1
    omega
theorem cWs_snoc {c : zI} {t : Nat} {x : pCl} : ∀ (ws : List pCl) (k a : Nat), cWs c t k a ws → c (t + 2) (k + ws.length) = Int32.ofNat x.2.1 → c (t + 3) (k + ws.length) = Int32.ofNat (a + (aTk ws).length + x.2.2.length) → cSteps c t (a + (aTk ws).length) x.2.2 → cWs c t k a (ws ++ [x])
  | [], k, a, _, h1, h2, h3 => ⟨⟨h1, h2, h3⟩, trivial⟩
  | y :: ws, k, a, q, h1, h2, h3 => by
    simp only [List.length_cons, aTk, List.length_append] at h1 h2 h3
    refine ⟨q.1, cWs_snoc ws (k + 1) (a + y.2.2.length) q.2 ?_ ?_ ?_⟩
    · rw [show k + 1 + ws.length = k + (ws.length + 1) by omega]; exact h1
    · rw [show k + 1 + ws.length = k + (ws.length + 1) by omega, Nat.add_assoc a]; exact h2
    · rw [Nat.add_assoc a]; exact h3
theorem bN10_put {S T : Nat → Prop} [DecidablePred S] [DecidablePred T] {q : Nat} (hq : q < 10) (h : ∀ i, i < 10 → (T i ↔ S i ∨ i = q)) : bN S 10 ||| 2 ^ q = bN T 10 := by
  apply Nat.eq_of_testBit_eq
  intro i
  rw [Nat.testBit_or, bN_bit, bN_bit, Nat.testBit_two_pow]
  by_cases hi : i < 10
  · by_cases e : q = i
    · subst e
      simp [(h q hi).mpr (.inr rfl), hi]
    · have h' : T i ↔ S i := (h i hi).trans ⟨fun z => z.elim id (fun y => absurd y.symm e), .inl⟩
      by_cases s : S i
      · simp [hi, e, s, h'.mpr s]
      · have nt : ¬ T i := fun z => s (h'.mp z)
        simp [hi, e, s, nt]
  · have : ¬ q = i := by omega
    simp [hi, this]
/-- only what bar writes -/
def fBar (t : Nat) (c c' : zI) : Prop := ∀ x y, ¬ (x = t ∧ (y = 3 ∨ y = 5)) → x ≠ t + 4 → c' x y = c x y
theorem fBar_rfl (t : Nat) (c : zI) : fBar t c c := fun _ _ _ _ => rfl
section BARS
variable {d : Nat} {X : zS} {fr nx : Nat} {P : zR0} {lc : zJ} {t : Nat} {cs : List pCl}
theorem t_44 {K : Int32 → zI → zJ → Prop} {c : zI} (ht : iPc t) (hB : cPa t c cs) (h : K (Int32.ofNat (aTk (wCl cs)).length) c lc) : TI (d + 1) 44 [.ref t] (zCS ++ X) (zCR fr nx P) c lc K := by
  obtain ⟨-, ⟨g, g2⟩, i, j⟩ := hB
  refine TI_of (B_44 t ht ?_)
  rw [g]
  refine ⟨fun x => ?_, fun x => ⟨fun y => absurd ((n_lt (a := 10) (by decide) (by omega)).mp y) (by omega), fun y => ?_⟩⟩
  · have := (n_le (b := 0) (by omega) (by decide)).mp x
    have e : wCl cs = [] := List.eq_nil_of_length_eq_zero (by omega)
    rw [e] at h
    exact h
  · have hp : 0 < (wCl cs).length := Nat.lt_of_not_le (fun z => x ((n_le (b := 0) (by omega) (by decide)).mpr z))
    have e1 : Int32.ofNat (wCl cs).length - 1 = Int32.ofNat ((wCl cs).length - 1) := n_sub (b := 1) (by omega)
    have e2 := cWs_end (wCl cs) 0 0 i hp
    rw [Nat.zero_add, Nat.zero_add] at e2
    rw [e1, n_cl (show (wCl cs).length - 1 < 2147483648 by omega), e2]
    exact ⟨n_zin (by omega) (by decide), h⟩
/-- a round of bar: bit q is set, or not -/
theorem t_43_11 {Q : zQ} {k b : Nat} {I : Nat → zI → Prop} (ht : iPc t) (hb : b < 5)
    (hstep : ∀ a c1, a < b → I (sTri b + a) c1 → TV (d + 2) 45 [.ref t, .int (Int32.ofNat a), .int (Int32.ofNat b), .int 99, .int 99, .int 99, .int 99] (zCS ++ X) (zCR fr nx P) c1 lc (fun mi1 ml1 => TI (d + 2) 46 [.ref t, .int (Int32.ofNat k), .int (mi1 t 5)] (zCS ++ X) (zCR fr nx P) mi1 ml1 (fun v2 mi2 ml2 => ml2 = lc ∧ (v2 = 0 → I (sTri b + a + 1) mi2) ∧ (¬ v2 = 0 → I (sTri b + a + 1) (zu mi2 t 3 ((mi2 t 3) ||| ((1 : Int32) <<< (Int32.ofNat (sTri b + a) &&& 31))))))))
    (hout : ∀ c1, I (sTri (b + 1)) c1 → Wf (d + 3) 43 6 [.ref t, .int (Int32.ofNat k), .int (Int32.ofNat (b + 1)), .retAddr 0] [] (zCS ++ X) (zCR fr nx P) c1 lc Q) :
    ∀ (j a : Nat) (c1 : zI), a + j = b → I (sTri b + a) c1 → Wf (d + 3) 43 11 [.ref t, .int (Int32.ofNat k), .int (Int32.ofNat b), .int (Int32.ofNat a)] [] (zCS ++ X) (zCR fr nx P) c1 lc Q
  | 0, a, c1, e, hI => by
    obtain rfl : a = b := by omega
    refine B_43_11 t _ _ _ ht ⟨fun _ => ?_, fun x => absurd (Int32.le_refl _) x⟩
    rw [n_suc]
    exact hout c1 (by rw [← sTri_suc a hb]; exact hI)
  | j + 1, a, c1, e, hI => by
    refine B_43_11 t _ _ _ ht ⟨fun x => absurd ((n_le (by omega) (by omega)).mp x) (by omega), fun _ => TV.mono (hstep a c1 (by omega) hI) (fun mi1 ml1 q => TI.mono q (fun v2 mi2 ml2 ⟨el, r0, r1⟩ => ?_))⟩
    rw [el, n_suc]
    refine ⟨fun z => t_43_11 ht hb hstep hout j (a + 1) mi2 (by omega) (r0 z), fun z => t_13 (by omega) hb ?_⟩
    rw [(pAB b hb a (by omega)).2.2.1]
    exact t_43_11 ht hb hstep hout j (a + 1) _ (by omega) (r1 z)
theorem t_43_6 {Q : zQ} {k : Nat} {I : Nat → zI → Prop} (ht : iPc t)
    (hstep : ∀ b a c1, b < 5 → a < b → I (sTri b + a) c1 → TV (d + 2) 45 [.ref t, .int (Int32.ofNat a), .int (Int32.ofNat b), .int 99, .int 99, .int 99, .int 99] (zCS ++ X) (zCR fr nx P) c1 lc (fun mi1 ml1 => TI (d + 2) 46 [.ref t, .int (Int32.ofNat k), .int (mi1 t 5)] (zCS ++ X) (zCR fr nx P) mi1 ml1 (fun v2 mi2 ml2 => ml2 = lc ∧ (v2 = 0 → I (sTri b + a + 1) mi2) ∧ (¬ v2 = 0 → I (sTri b + a + 1) (zu mi2 t 3 ((mi2 t 3) ||| ((1 : Int32) <<< (Int32.ofNat (sTri b + a) &&& 31))))))))
    (h : ∀ c1, I 10 c1 → Q none (zu c1 t 5 (Int32.ofNat k)) lc) :
    ∀ (j b : Nat) (c1 : zI), b + j = 5 → 1 ≤ b → I (sTri b) c1 → Wf (d + 3) 43 6 [.ref t, .int (Int32.ofNat k), .int (Int32.ofNat b), .retAddr 0] [] (zCS ++ X) (zCR fr nx P) c1 lc Q
  | 0, b, c1, e, h1, hI => by
    obtain rfl : b = 5 := by omega
    exact B_43_6 t _ _ ht ⟨fun _ => h c1 hI, fun x => absurd (show (5 : Int32) ≤ Int32.ofNat 5 by decide) x⟩
  | j + 1, b, c1, e, h1, hI => by
    refine B_43_6 t _ _ ht ⟨fun x => absurd ((n_le (a := 5) (by decide) (by omega)).mp x) (by omega), fun _ => ?_⟩
    exact t_43_11 ht (by omega) (fun a c1 ha hI => hstep b a c1 (by omega) ha hI) (fun c2 hI2 => t_43_6 ht hstep h j (b + 1) c2 (by omega) (by omega) hI2) b 0 c1 (by omega) hI
/-- bar, whatever has been read -/
theorem t_43w {K : zI → zJ → Prop} {c : zI} (ht : iPc t) (hB : cPa t c cs) (h : ∀ c', fBar t c c' → K c' lc) : TV (d + 3) 43 [.ref t] (zCS ++ X) (zCR fr nx P) c lc K := by
  have hj := hB.2.2.2
  refine TV_of (B_43 t ht (t_44 (d := d + 1) ht hB (t_43_6 (d := d) (I := fun _ c1 => fBar t c c1) ht (fun b a c1 hb ha hI => t_45 (d := d + 1) ht (fun c2 A2 _ => t_46w (d := d) ht hj (fun v _ => ⟨rfl, fun _ => ?_, fun _ => ?_⟩))) (fun c1 hI => h _ (fun x y z1 z2 => by rw [zu_ne (by omega)]; exact hI x y z1 z2)) 4 1 c rfl (by decide) (fBar_rfl t c))))
  · exact fun x y z1 z2 => by rw [A2 x y z2]; exact hI x y z1 z2
  · exact fun x y z1 z2 => by rw [zu_ne (by omega), A2 x y z2]; exact hI x y z1 z2
theorem nmP_at {b a : Nat} (hb : b < 5) (ha : a < b) : nmP (sTri b + a) = sNm (Int32.ofNat a) (Int32.ofNat b) 99 99 99 99 := by
  obtain ⟨p1, p2, -⟩ := pAB b hb a ha
  unfold nmP
  rw [p1, p2]
/-- bar of what has been read -/
theorem t_43 {K : zI → zJ → Prop} {c : zI} {tk : List Nat} (ht : iPc t) (hB : cPa t c cs) (h5 : c t 5 = Int32.ofNat ((aTk (wCl cs)).length + tk.length)) (hb : (aTk (wCl cs)).length + tk.length ≤ 100) (hC : cSteps c t (aTk (wCl cs)).length tk) (hok : sOK tk 0)
    (h : ∀ c', fBar t c c' → c' t 3 = sBits (fun k => cBarB (cs ++ [(3, 0, tk)]) k = true) 10 → c' t 5 = Int32.ofNat (aTk (wCl cs)).length → K c' lc) : TV (d + 3) 43 [.ref t] (zCS ++ X) (zCR fr nx P) c lc K := by
  have h3 := hB.1.2.2.2
  rw [sBits_bN _ 10 (by decide)] at h3
  refine TV_of (B_43 t ht (t_44 (d := d + 1) ht hB (t_43_6 (d := d) (I := fun q c1 => (∀ x y, ¬ (x = t ∧ y = 3) → x ≠ t + 4 → c1 x y = c x y) ∧ c1 t 3 = Int32.ofNat (bN (fun i => cBarB cs i = true ∨ (i < q ∧ sTrue (nmP i) tk = true)) 10)) ht (fun b a c1 hb5 ha hI => ?_) (fun c1 hI => ?_) 4 1 c rfl (by decide) ⟨fun _ _ _ _ => rfl, ?_⟩)))
  · obtain ⟨i1, i2⟩ := hI
    obtain ⟨p1, p2, p3, p4⟩ := pAB b hb5 a ha
    refine t_45 (d := d + 1) ht (fun c2 A2 v2 => ?_)
    have u : ∀ x y, ¬ (x = t ∧ y = 3) → x ≠ t + 4 → c2 x y = c x y := fun x y z1 z2 => by rw [A2 x y z2]; exact i1 x y z1 z2
    have e5 : c2 t 5 = Int32.ofNat ((aTk (wCl cs)).length + tk.length) := by rw [u t 5 (by omega) (by omega)]; exact h5
    have e3 : c2 t 3 = Int32.ofNat (bN (fun i => cBarB cs i = true ∨ (i < sTri b + a ∧ sTrue (nmP i) tk = true)) 10) := by rw [A2 t 3 (by omega)]; exact i2
    rw [e5]
    refine t_46 (d := d) (nm := nmP (sTri b + a)) ht hb (fun k hk => by rw [nmP_at hb5 ha]; exact v2 k hk) (cSteps_eq _ _ (fun i _ _ => u _ _ (by omega) (by omega)) hC) hok ⟨rfl, fun z => ⟨u, ?_⟩, fun z => ⟨fun x y z1 z2 => by rw [zu_ne z1]; exact u x y z1 z2, ?_⟩⟩
    · have hf : ¬ sTrue (nmP (sTri b + a)) tk = true := fun y => by rw [y] at z; exact absurd z (by decide)
      rw [e3]
      congr 1
      refine bN_same 10 (fun i hi => ⟨fun y => y.elim .inl (fun w => .inr ⟨by omega, w.2⟩), fun y => y.elim .inl (fun w => .inr ⟨?_, w.2⟩)⟩)
      by_cases e : i = sTri b + a
      · subst e; exact absurd w.2 hf
      · omega
    · have hf : sTrue (nmP (sTri b + a)) tk = true := by
        cases hh : sTrue (nmP (sTri b + a)) tk with
        | true => rfl
        | false => rw [hh] at z; exact absurd rfl z
      rw [zu_eq, e3, n_pow32 _ (by omega), n_or]
      congr 1
      refine bN10_put p4 (fun i hi => ⟨fun y => ?_, fun y => ?_⟩)
      · rcases y with y | ⟨y1, y2⟩
        · exact .inl (.inl y)
        · by_cases e : i = sTri b + a
          · exact .inr e
          · exact .inl (.inr ⟨by omega, y2⟩)
      · rcases y with (y | ⟨y1, y2⟩) | y
        · exact .inl y
        · exact .inr ⟨by omega, y2⟩
        · subst y; exact .inr ⟨by omega, hf⟩
  · obtain ⟨i1, i2⟩ := hI
    refine h _ (fun x y z1 z2 => by rw [zu_ne (by omega)]; exact i1 x y (by omega) z2) ?_ zu_eq
    rw [zu_nk (by decide), i2, sBits_bN _ 10 (by decide)]
    congr 1
    refine bN_same 10 (fun i hi => ?_)
    unfold cBarB
    rw [List.any_append, Bool.or_eq_true]
    show _ ↔ _ ∨ List.any [((3 : Nat), (0 : Nat), tk)] _ = true
    simp [hi]
  · rw [h3]
    congr 1
    exact bN_same 10 (fun i hi => ⟨.inl, fun y => y.elim id (fun w => absurd w.1 (Nat.not_lt_zero _))⟩)
/-- addWorth -/
theorem t_48 {K : zI → zJ → Prop} {c : zI} {N : Nat} {v : Int32} (ht : iPc t) (h8 : c t 8 = Int32.ofNat N) (hN : N ≤ 10) (h10 : N = 10 → K c lc) (h : N < 10 → K (zu (zu (zu c (t + 2) N v) (t + 3) N (c t 5)) t 8 (Int32.ofNat (N + 1))) lc) : TV (d + 1) 48 [.ref t, .int v] (zCS ++ X) (zCR fr nx P) c lc K := by
  refine TV_of (B_48 t _ ht ?_)
  rw [zu_nc (show t ≠ t + 2 by omega), zu_nc (show t ≠ t + 3 by omega), zu_nc (show t ≠ t + 2 by omega), zu_nc (show t ≠ t + 2 by omega), h8]
  refine ⟨fun x => h10 ?_, fun x => ?_⟩
  · have := (n_le (a := 10) (by decide) (by omega)).mp x
    omega
  · have hlt : N < 10 := Nat.lt_of_not_le (fun z => x ((n_le (a := 10) (by decide) (by omega)).mpr z))
    rw [n_cl (show N < 2147483648 by omega), n_suc]
    exact ⟨n_zin hlt (by decide), n_zin hlt (by decide), h hlt⟩
end BARS
