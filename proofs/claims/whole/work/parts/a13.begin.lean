/-! The class: the search begins. -/
abbrev cG (p : Nat) (cs : List pCl) (g : Nat) : Prop := 1 ≤ g ∧ g < 2 ^ p ∧ cLaw 1 1 cs ≤ oN g ∧ oN g ≤ cLaw 0 2 cs
/-- a row of sets of places -/
def rp (c : zI) (x : Nat) (F : Nat → Nat → Prop) : Prop := ∀ K, K < 1024 → ∀ w, w < 32 → (tB (c x K) w ↔ F K w)
theorem rp_eq {c c' : zI} {x : Nat} {F : Nat → Nat → Prop} (h : ∀ K, c' x K = c x K) (q : rp c x F) : rp c' x F := fun K hK w hw => by rw [h]; exact q K hK w hw
theorem rp_iff {c : zI} {x : Nat} {F F' : Nat → Nat → Prop} (h : ∀ K w, F K w ↔ F' K w) (q : rp c x F) : rp c x F' := fun K hK w hw => (q K hK w hw).trans (h K w)
/-- the groups that go at all -/
def gAt (c : zI) (Gs : List Nat) : Prop := c 17 4 = Int32.ofNat Gs.length ∧ ∀ i, i < Gs.length → c 19 i = Int32.ofNat (Gs.getD i 0)
def fSr (c c' : zI) : Prop := ∀ x k, ¬ (x = 17 ∧ (k = 4 ∨ k = 5 ∨ k = 9 ∨ k = 10)) → x ≠ 19 → x ≠ 21 → x ≠ 22 → x ≠ 23 → x ≠ 24 → c' x k = c x k
theorem fSr_rfl (c : zI) : fSr c c := fun _ _ _ _ _ _ _ _ => rfl
theorem fSr_tr {a b e : zI} (h : fSr a b) (q : fSr b e) : fSr a e := fun x k z1 z2 z3 z4 z5 z6 => by rw [q x k z1 z2 z3 z4 z5 z6, h x k z1 z2 z3 z4 z5 z6]
abbrev iFN (fr nx : Nat) : Prop := (fr = 23 ∧ nx = 24) ∨ (fr = 24 ∧ nx = 23)
theorem grp_sub : ∀ p : Nat, p < 6 → ∀ g : Nat, g < 32 → (Int32.ofNat g &&& (Int32.ofNat (2 ^ p - 1) ^^^ -1) = 0 ↔ g < 2 ^ p) := by decide +kernel
theorem tri_1024 {p : Nat} (hp : p < 6) : 2 ^ sTri p ≤ 1024 ∧ 0 < 2 ^ sTri p := ⟨Nat.pow_le_pow_right (n := 2) (j := 10) (by decide) (sTri_le p hp), Nat.pow_pos (n := sTri p) (show 0 < 2 by decide)⟩
theorem gl_get_app {l : List Nat} {a i : Nat} : i < l.length → (l ++ [a]).getD i 0 = l.getD i 0 := fun h => by
  rw [List.getD_eq_getElem?_getD, List.getD_eq_getElem?_getD, List.getElem?_append_left h]
theorem gl_get_end {l : List Nat} {a : Nat} : (l ++ [a]).getD l.length 0 = a := by
  rw [List.getD_eq_getElem?_getD, List.getElem?_append_right (Nat.le_refl _), Nat.sub_self]; rfl
section BEGIN
variable {d : Nat} {X : zS} {fr nx : Nat} {P : zR0} {cs : List pCl} {lc : zJ}
theorem seen_row {b : Nat} (hb : b < 2) : zCR fr nx P 20 b = 21 + b + 1 ∧ Nat.beq (zk (zCS ++ X) (21 + b)) 100 = true ∧ zn (zCS ++ X) (21 + b) = 1024 := by
  have : b = 0 ∨ b = 1 := by omega
  rcases this with rfl | rfl <;> exact ⟨rfl, rfl, rfl⟩
theorem t_98_54 {Q : zQ} {b st r : Nat} {x2 : Int32} {c0 : zI} (hr : iPc r) (hf : iFN fr nx) (hb : c0 1 3 = Int32.ofNat b) (hb2 : b < 2) (hst : (x2 &&& (c0 17 5 - 1)) &&& 1023 = Int32.ofNat st) (hst2 : st < 1024)
    (h : ∀ c1 : zI, (∀ x K, (x = 21 ∨ x = 22 ∨ x = 23 ∨ x = 24) → K < 1024 → c1 x K = 0) → (∀ x K, ¬ (x = 21 ∨ x = 22 ∨ x = 23 ∨ x = 24) → c1 x K = c0 x K) → Q (some (.int (Int32.ofNat st))) (zu c1 (21 + b) st ((1 : Int32) <<< (c0 1 1 &&& 31))) lc) :
    ∀ (j k : Nat) (c1 : zI), k + j = 1024 → (∀ x K, (x = 21 ∨ x = 22 ∨ x = 23 ∨ x = 24) → K < k → c1 x K = 0) → (∀ x K, ¬ (x = 21 ∨ x = 22 ∨ x = 23 ∨ x = 24) → c1 x K = c0 x K) →
      Wf (d + 1) 98 54 [.ref 17, .ref 1, .int x2, .retAddr 0, .retAddr 0, .int (Int32.ofNat k)] [] (zCS ++ X) (zCR fr nx P) c1 lc Q
  | 0, k, c1, e, h1, h2 => by
    obtain rfl : k = 1024 := by omega
    obtain ⟨z1, z2, z3⟩ := seen_row (X := X) (fr := fr) (nx := nx) (P := P) hb2
    have eb : c1 1 3 &&& 1 = Int32.ofNat b := by
      rw [h2 1 3 (by omega), hb]
      have : b = 0 ∨ b = 1 := by omega
      rcases this with rfl | rfl <;> rfl
    have e5 : (x2 &&& (c1 17 5 - 1)) &&& 1023 = Int32.ofNat st := by rw [h2 17 5 (by omega)]; exact hst
    have e11 : c1 1 1 = c0 1 1 := h2 1 1 (by omega)
    refine B_98_54 1 r _ _ (.inl rfl) hr hf ⟨fun _ => ?_, fun q => absurd (show (1024 : Int32) ≤ Int32.ofNat 1024 by decide) q⟩
    rw [eb, e5, e11, n_cl (show b < 2147483648 by omega), n_cl (show st < 2147483648 by omega), z1]
    refine ⟨n_zin hb2 (by decide), by omega, fun c2 e2 => ?_⟩
    obtain rfl : c2 = 21 + b := by omega
    rw [z3]
    exact ⟨z2, n_zin hst2 (by decide), h c1 h1 h2⟩
  | j + 1, k, c1, e, h1, h2 => by
    have hz := n_zin (k := k) (n := 1024) (by omega) (by decide)
    refine B_98_54 1 r _ _ (.inl rfl) hr hf ⟨fun q => absurd ((n_le (a := 1024) (by decide) (by omega)).mp q) (by omega), fun _ => ⟨by decide, hz, by decide, hz, hz, hz, ?_⟩⟩
    rw [n_suc, n_cl (show k < 2147483648 by omega)]
    refine t_98_54 hr hf hb hb2 hst hst2 h j (k + 1) _ (by omega) (fun x K hx hK => ?_) (fun x K hx => ?_)
    · by_cases eK : K = k
      · subst eK
        rcases hf with ⟨rfl, rfl⟩ | ⟨rfl, rfl⟩ <;> rcases hx with rfl | rfl | rfl | rfl <;> simp [zu]
      · rw [zu_ne (fun q => eK q.2), zu_ne (fun q => eK q.2), zu_ne (fun q => eK q.2), zu_ne (fun q => eK q.2)]
        exact h1 x K hx (by omega)
    · rw [zu_nc (by omega), zu_nc (by omega), zu_nc (by omega), zu_nc (by omega)]
      exact h2 x K hx
theorem t_98_8 {Q : zQ} {p r : Nat} {x2 : Int32} {c0 : zI} (hp : p < 6) (hr : iPc r) (hf : iFN fr nx) (hP : cPa r c0 cs) (hc : iCs cs)
    (h : ∀ c1, gAt c1 (gl (cG p cs) 32) → (∀ x k, ¬ (x = 17 ∧ k = 4) → x ≠ 19 → c1 x k = c0 x k) → Wf (d + 3) 98 8 [.ref 17, .ref 1, .int x2, .ref r, .int (Int32.ofNat (2 ^ p - 1)), .int (Int32.ofNat 32)] [] (zCS ++ X) (zCR fr nx P) c1 lc Q) :
    ∀ (j g : Nat) (c1 : zI), g + j = 32 → 1 ≤ g → gAt c1 (gl (cG p cs) g) → (∀ x k, ¬ (x = 17 ∧ k = 4) → x ≠ 19 → c1 x k = c0 x k) →
      Wf (d + 3) 98 8 [.ref 17, .ref 1, .int x2, .ref r, .int (Int32.ofNat (2 ^ p - 1)), .int (Int32.ofNat g)] [] (zCS ++ X) (zCR fr nx P) c1 lc Q
  | 0, g, c1, e, g1, ha, hu => by
    obtain rfl : g = 32 := by omega
    exact h c1 ha hu
  | j + 1, g, c1, e, g1, ha, hu => by
    have g32 : g < 32 := by omega
    have hs := grp_sub p hp g g32
    have hlen := gl_le (cG p cs) g
    have skip : ¬ cG p cs g → Wf (d + 3) 98 8 [.ref 17, .ref 1, .int x2, .ref r, .int (Int32.ofNat (2 ^ p - 1)), .int (Int32.ofNat (g + 1))] [] (zCS ++ X) (zCR fr nx P) c1 lc Q := fun q =>
      t_98_8 hp hr hf hP hc h j (g + 1) c1 (by omega) (by omega) (by rw [gl_suc, if_neg (fun z => q z.2)]; exact ha) hu
    have hP1 : cPa r c1 cs := cPa_eq (fun k => hu _ _ (by omega) (by omega)) (fun k => hu _ _ (by omega) (by omega)) (fun k => hu _ _ (by omega) (by omega)) (fun k => hu _ _ (by omega) (by omega)) hP
    refine B_98_8 1 r _ _ _ (.inl rfl) hr hf ⟨fun q => absurd ((n_le (a := 32) (by decide) (by omega)).mp q) (by omega), fun _ => ⟨fun q => ?_, fun q => t_68 (d := d) g32 hr hP1 hc ⟨fun y => ?_, fun y => ⟨?_, ?_⟩⟩⟩⟩
    · rw [n_suc]
      exact skip (fun z => q (hs.mpr z.2.1))
    · rw [n_suc]
      exact skip (fun z => by rw [if_pos z.2.2] at y; exact absurd y (by decide))
    · rw [ha.1]
      exact n_zin (by omega) (by decide)
    · have hy : cLaw 1 1 cs ≤ oN g ∧ oN g ≤ cLaw 0 2 cs := Decidable.byContradiction fun z => y (by rw [if_neg z])
      have hcg : cG p cs g := ⟨g1, hs.mp (Decidable.not_not.mp q), hy⟩
      rw [n_suc, ha.1, n_cl (show (gl (cG p cs) g).length < 2147483648 by omega), n_suc]
      refine t_98_8 hp hr hf hP hc h j (g + 1) _ (by omega) (by omega) ?_ (fun x k hx h19 => ?_)
      · rw [gl_suc, if_pos ⟨g1, hcg⟩]
        refine ⟨by rw [zu_eq, List.length_append]; rfl, fun i hi => ?_⟩
        rw [List.length_append] at hi
        have hi : i < (gl (cG p cs) g).length + 1 := hi
        rw [zu_nc (by decide)]
        by_cases ei : i = (gl (cG p cs) g).length
        · rw [ei, zu_eq, gl_get_end]
        · rw [zu_nk ei, gl_get_app (by omega)]
          exact ha.2 i (by omega)
      · rw [zu_ne hx, zu_nc h19]
        exact hu x k hx h19
/-- what begin leaves -/
def iBeg (p b w0 st : Nat) (cs : List pCl) (c' : zI) : Prop := gAt c' (gl (cG p cs) 32) ∧ c' 17 5 = Int32.ofNat (2 ^ sTri p) ∧ rp c' (21 + b) (fun K w => K = st ∧ w = w0) ∧ rp c' (22 - b) (fun _ _ => False) ∧ rp c' 23 (fun _ _ => False) ∧ rp c' 24 (fun _ _ => False)
theorem t_98 {K : Int32 → zI → zJ → Prop} {c m : zI} {cl r : Nat} (hr : iPc r) (hf : iFN fr nx) (hS : cSc 1 c m) (hp : iP m) (hb : iB m) (hw : iW m) (hP : cPa r c cs) (hc : iCs cs) (hcl : cl < 1024)
    (h : ∀ c', iBeg (mPe m) (mBo m) (mW m) (cl &&& (2 ^ sTri (mPe m) - 1)) cs c' → fSr c c' → (∀ k, k ≠ 4 → k ≠ 5 → c' 17 k = c 17 k) → K (Int32.ofNat (cl &&& (2 ^ sTri (mPe m) - 1))) c' lc) :
    TI (d + 4) 98 [.ref 17, .ref 1, .int (Int32.ofNat cl), .ref r] (zCS ++ X) (zCR fr nx P) c lc K := by
  obtain ⟨q1, q2⟩ := iP_of hp
  obtain ⟨b1, b2⟩ := mBo_of hb
  obtain ⟨t1, t2⟩ := tri_1024 q2
  have pw := pow_tri _ hp
  have t10 := sTri_le _ q2
  have w32 : mW m < 32 := by have := hw.2; omega
  have hP1 : cPa r (zu c 17 4 0) cs := cPa_eq (fun k => zu_nc (by omega)) (fun k => zu_nc (by omega)) (fun k => zu_nc (by omega)) (fun k => zu_nc (by omega)) hP
  refine TI_of (B_98 1 _ r (.inl rfl) hr hf (t_67 (d := d + 2) (m := m) (.inl rfl) hp (by rw [zu_nc (by decide)]; exact hS.1) ?_))
  have e1 : gl (cG (mPe m) cs) 1 = [] := rfl
  refine t_98_8 (d := d + 1) (Q := qI K) (p := mPe m) q2 hr hf hP1 hc (fun c1 ha hu => ?_) 31 1 _ rfl (by decide) (by rw [e1]; exact ⟨by rw [zu_eq]; rfl, fun i hi => absurd hi (Nat.not_lt_zero _)⟩) (fun _ _ _ _ => rfl)
  have e0 : c1 1 0 = Int32.ofNat (mPe m) := by rw [hu 1 0 (by omega) (by decide), zu_nc (by decide), hS.1, q1]
  refine B_98_8 1 r _ _ _ (.inl rfl) hr hf ⟨fun _ => ⟨by decide, ?_⟩, fun q => absurd (show (32 : Int32) ≤ Int32.ofNat 32 by decide) q⟩
  rw [e0, n_tri _ q2, n_pow _ (by omega)]
  have hmod : cl &&& (2 ^ sTri (mPe m) - 1) < 2 ^ sTri (mPe m) := by
    rw [Nat.and_two_pow_sub_one_eq_mod]; exact Nat.mod_lt _ t2
  have en : Int32.ofNat (2 ^ sTri (mPe m)) - 1 = Int32.ofNat (2 ^ sTri (mPe m) - 1) := n_sub (b := 1) (by omega)
  have f1 : ∀ x k, ¬ (x = 17 ∧ (k = 4 ∨ k = 5)) → x ≠ 19 → zu c1 17 5 (Int32.ofNat (2 ^ sTri (mPe m))) x k = c x k := fun x k hx h19 => by
    rw [zu_ne (by omega), hu x k (by omega) h19, zu_ne (by omega)]
  refine t_98_54 (d := d + 3) (Q := qI K) (b := mBo m) (st := cl &&& (2 ^ sTri (mPe m) - 1)) hr hf (by rw [f1 1 3 (by omega) (by decide), hS.2.2.2.1, b1]) b2 ?_ (by omega) (fun c2 z2 u2 => ?_) 1024 0 _ rfl (fun x K _ hK => absurd hK (Nat.not_lt_zero _)) (fun _ _ _ => rfl)
  · rw [zu_eq, en, n_and]
    show Int32.ofNat _ &&& Int32.ofNat 1023 = _
    rw [n_and, show (1023 : Nat) = 2 ^ 10 - 1 from rfl, Nat.and_two_pow_sub_one_eq_mod _ 10, Nat.mod_eq_of_lt (by omega)]
  · have e11 : zu c1 17 5 (Int32.ofNat (2 ^ sTri (mPe m))) 1 1 = Int32.ofNat (mW m) := by rw [f1 1 1 (by omega) (by decide), hS.2.1, hw.1]
    rw [e11]
    have ub : ∀ x k, x ≠ 21 + mBo m → zu c2 (21 + mBo m) (cl &&& (2 ^ sTri (mPe m) - 1)) ((1 : Int32) <<< (Int32.ofNat (mW m) &&& 31)) x k = c2 x k := fun x k hx => zu_nc hx
    refine h _ ⟨⟨?_, fun i hi => ?_⟩, ?_, fun K hK w hw => ?_, fun K hK w hw => ?_, fun K hK w hw => ?_, fun K hK w hw => ?_⟩ (fun x k z1 z2 z3 z4 z5 z6 => ?_) (fun k k4 k5 => ?_)
    · rw [ub _ _ (by omega), u2 17 4 (by omega), zu_nk (by decide)]; exact ha.1
    · rw [ub _ _ (by omega), u2 19 i (by omega), zu_nc (by decide)]; exact ha.2 i hi
    · rw [ub _ _ (by omega), u2 17 5 (by omega), zu_eq]
    · by_cases eK : K = cl &&& (2 ^ sTri (mPe m) - 1)
      · rw [eK, zu_eq, tB_pow _ w32 w hw]
        exact ⟨fun q => ⟨rfl, q⟩, fun q => q.2⟩
      · rw [zu_nk eK, z2 _ K (by omega) hK]
        exact ⟨fun q => absurd q (tB_0 w), fun q => absurd q.1 eK⟩
    · rw [ub _ _ (by omega), z2 _ K (by omega) hK]
      exact ⟨fun q => absurd q (tB_0 w), fun q => q.elim⟩
    · rw [ub _ _ (by omega), z2 _ K (by omega) hK]
      exact ⟨fun q => absurd q (tB_0 w), fun q => q.elim⟩
    · rw [ub _ _ (by omega), z2 _ K (by omega) hK]
      exact ⟨fun q => absurd q (tB_0 w), fun q => q.elim⟩
    · rw [ub _ _ (by omega), u2 x k (by omega), f1 x k (by omega) z2]
    · rw [ub _ _ (by omega), u2 17 k (by omega), f1 17 k (by omega) (by decide)]
end BEGIN
