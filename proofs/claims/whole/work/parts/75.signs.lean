/-! The model reads: signs, numbers, tests, what waits. -/
/-- the text from here on: l is left of n signs -/
def xT (mi : zI) (n : Nat) (l : List Nat) : Prop := (l.length ≤ n ∧ n ≤ 100) ∧ mi 0 30 = Int32.ofNat (n - l.length) ∧ mi 0 21 = Int32.ofNat n ∧ ∀ i, i < l.length → mi 12 (n - l.length + i) = Int32.ofNat (l.getD i 0) ∧ l.getD i 0 < 128
def sg (l : List Nat) : Int32 := match l with | [] => -1 | c :: _ => Int32.ofNat c
theorem xT_eq {mi mi' : zI} {n : Nat} {l : List Nat} (h0 : mi' 0 30 = mi 0 30) (h1 : mi' 0 21 = mi 0 21) (h2 : ∀ k, mi' 12 k = mi 12 k) (h : xT mi n l) : xT mi' n l := by
  obtain ⟨a, b, c, e⟩ := h
  exact ⟨a, by rw [h0]; exact b, by rw [h1]; exact c, fun i hi => by rw [h2]; exact e i hi⟩
theorem xT_c {mi : zI} {n c : Nat} {l : List Nat} (h : xT mi n (c :: l)) : c < 128 := (h.2.2.2 0 (Nat.succ_pos _)).2
theorem xT_tl {mi : zI} {n c : Nat} {l : List Nat} (h : xT mi n (c :: l)) : xT (zu mi 0 30 (mi 0 30 + 1)) n l := by
  obtain ⟨⟨a1, a2⟩, b, c', e⟩ := h
  simp only [List.length_cons] at *
  refine ⟨⟨by omega, a2⟩, ?_, by rw [zu_nk (by decide)]; exact c', fun i hi => ?_⟩
  · rw [zu_eq, b, n_suc, show n - (l.length + 1) + 1 = n - l.length by omega]
  · have := e (i + 1) (by omega)
    rw [show n - (l.length + 1) + (i + 1) = n - l.length + i by omega] at this
    rw [zu_nc (by decide)]
    simpa using this
/-- the same but for what reading a condition writes -/
def xF (m0 mi : zI) : Prop := ∀ c k, ¬ (c = 0 ∧ (k = 30 ∨ k = 31 ∨ k = 33 ∨ k = 34)) → c ≠ 20 → ¬ (c = 11 ∧ 720 ≤ k) → mi c k = m0 c k
theorem xF.rfl {m : zI} : xF m m := fun _ _ _ _ _ => Eq.refl _
theorem xF.trans {a b c : zI} (h : xF a b) (h' : xF b c) : xF a c := fun x k p q r => by rw [h' x k p q r, h x k p q r]
theorem xF.put0 {a b : zI} {k : Nat} {v : Int32} (h : xF a b) (hk : k = 30 ∨ k = 31 ∨ k = 33 ∨ k = 34) : xF a (zu b 0 k v) := fun x y p q r => by rw [zu_ne (fun e => p ⟨e.1, by rw [e.2]; exact hk⟩)]; exact h x y p q r
theorem xF.put20 {a b : zI} {k : Nat} {v : Int32} (h : xF a b) : xF a (zu b 20 k v) := fun x y p q r => by rw [zu_nc q]; exact h x y p q r
theorem xF.put11 {a b : zI} {k : Nat} {v : Int32} (h : xF a b) (hk : 720 ≤ k) : xF a (zu b 11 k v) := fun x y p q r => by rw [zu_ne (fun e => r ⟨e.1, by omega⟩)]; exact h x y p q r
theorem mCodes_put {mi : zI} {v : Int32} {j : Nat} : ∀ {l : List Nat} {k : Nat}, k + l.length ≤ j → mCodes mi k l → mCodes (zu mi 11 j v) k l
  | [], _, _, _ => trivial
  | t :: l, k, h, q => by
    simp only [List.length_cons] at h
    exact ⟨by rw [zu_nk (by omega)]; exact q.1, mCodes_put (by omega) q.2⟩
theorem mCodes_eq {mi mi' : zI} (h : ∀ k, mi' 11 k = mi 11 k) : ∀ {l : List Nat} {k : Nat}, mCodes mi k l → mCodes mi' k l
  | [], _, _ => trivial
  | _ :: _, k, q => ⟨by rw [h]; exact q.1, mCodes_eq h q.2⟩
theorem mCodes_snoc {mi : zI} {t : Nat} : ∀ {l : List Nat} {k : Nat}, mCodes mi k l → mi 11 (k + l.length) = mCode t → mCodes mi k (l ++ [t])
  | [], k, _, h => ⟨h, trivial⟩
  | _ :: l, k, q, h => ⟨q.1, mCodes_snoc q.2 (by simp only [List.length_cons] at h; rw [← h]; congr 1; omega)⟩
section SIGNS
variable {d : Nat} {ml : zJ}
theorem t_172 {K : Int32 → zI → zJ → Prop} {mi : zI} {n : Nat} {l : List Nat} (hx : xT mi n l) (h : K (sg l) mi ml) : TI (d + 1) 172 [.ref 0] zMS zMR mi ml K := by
  obtain ⟨⟨a1, a2⟩, b, c, e⟩ := hx
  refine TI_of (B_172 ?_)
  rw [b, c]
  match l, h with
  | [], h => exact ⟨fun _ => h, fun x => absurd ((n_le (by omega) (by omega)).mpr (by simp only [List.length_nil]; omega)) x⟩
  | s :: r, h =>
    simp only [List.length_cons] at *
    have := (e 0 (by omega)).1
    refine ⟨fun x => absurd ((n_le (by omega) (by omega)).mp x) (by omega), fun _ => ⟨n_zin (by omega) (by omega), ?_⟩⟩
    rw [n_cl (by omega)]
    rw [Nat.add_zero] at this
    rw [this]; exact h
theorem sg_eq {l : List Nat} {mi : zI} {n c : Nat} (hx : xT mi n l) (hc : c < 1000) : sg l = Int32.ofNat c ↔ ∃ r, l = c :: r := by
  match l, hx with
  | [], _ => exact ⟨fun e => absurd e.symm (n_ne1 (by omega)), fun ⟨r, e⟩ => by cases e⟩
  | s :: r, hx =>
    have := xT_c hx
    constructor
    · intro e
      exact ⟨r, by rw [(n_eq (by omega) (by omega)).mp e]⟩
    · rintro ⟨r', e⟩
      injection e with e1 e2
      rw [e1]; rfl
/-- goesBy -/
theorem t_173 {K : Int32 → zI → zJ → Prop} {mi : zI} {n c : Nat} {l : List Nat} (hc : c < 1000) (hx : xT mi n l) (h0 : (∀ r, l ≠ c :: r) → K 0 mi ml) (h1 : ∀ r mi', l = c :: r → xF mi mi' → xT mi' n r → (∀ x k, ¬ (x = 0 ∧ k = 30) → mi' x k = mi x k) → K 1 mi' ml) : TI (d + 2) 173 [.ref 0, .int (Int32.ofNat c)] zMS zMR mi ml K := by
  refine TI_of (B_173 _ (t_172 hx ⟨fun e => ?_, fun e => h0 (fun r q => e ((sg_eq hx hc).mpr ⟨r, q⟩))⟩))
  obtain ⟨r, rfl⟩ := (sg_eq hx hc).mp e
  exact h1 r _ rfl (xF.rfl.put0 (.inl rfl)) (xT_tl hx) (fun x k q => zu_ne q)
theorem t_175 {K : Int32 → zI → zJ → Prop} {mi : zI} {a : Int32} (h : K (if 48 ≤ a ∧ a ≤ 57 then 1 else 0) mi ml) : TI (d + 2) 175 [.int a] zMS zMR mi ml K := by
  refine TI_of (B_175 _ (t_157 ⟨?_, h⟩))
  split
  · exact .inr rfl
  · exact .inl rfl
theorem pFig_of {c : Nat} (hc : c < 1000) : (48 ≤ Int32.ofNat c ∧ Int32.ofNat c ≤ 57) ↔ pFig c = true := by
  rw [show (48 : Int32) = Int32.ofNat 48 from rfl, show (57 : Int32) = Int32.ofNat 57 from rfl, n_le (by omega) (by omega), n_le (by omega) (by omega)]
  unfold pFig; simp
theorem n_dig {c : Nat} (h : pFig c = true) : Int32.ofNat c - 48 = Int32.ofNat (c - 48) := by
  unfold pFig at h
  simp at h
  exact n_sub (b := 48) (by omega)
/-- numberRead -/
theorem t_174 {K : Int32 → zI → zJ → Prop} {mi : zI} {n : Nat} {l : List Nat} (hx : xT mi n l) (h0 : (pNum l).1 = false → (pNum l).2.1 = l → K (-1) mi ml)
    (h1 : ∀ mi', (pNum l).1 = true → xT mi' n (pNum l).2.1 → (∀ x k, ¬ (x = 0 ∧ k = 30) → mi' x k = mi x k) → K (Int32.ofNat (pNum l).2.2) mi' ml) : TI (d + 3) 174 [.ref 0] zMS zMR mi ml K := by
  refine TI_of (B_174 (t_172 hx (t_175 ⟨fun x => ?_, fun x => ?_⟩)))
  · have hs : 48 ≤ sg l ∧ sg l ≤ 57 := Decidable.byContradiction fun y => x (by rw [if_neg y])
    match l, hx, hs, h0, h1 with
    | [], hx, hs, h0, h1 => exact absurd hs.1 (by decide)
    | c :: r, hx, hs, h0, h1 =>
      have hc := xT_c hx
      have hf : pFig c = true := (pFig_of (by omega)).mp hs
      have hx1 := xT_tl hx
      have ed := n_dig hf
      refine t_172 hx (t_172 hx1 (t_175 ⟨fun y => ?_, fun y => t_172 hx1 ?_⟩))
      · have hn : ¬ (48 ≤ sg r ∧ sg r ≤ 57) := fun z => by rw [if_pos z] at y; exact absurd y (by decide)
        have e : pNum (c :: r) = (true, r, c - 48) := by
          unfold pNum
          simp only [hf, if_true]
          match r, hn, hx1 with
          | [], _, _ => rfl
          | c2 :: r2, hn, hx1 =>
            have : ¬ pFig c2 = true := fun z => hn ((pFig_of (by have := xT_c hx1; omega)).mpr z)
            simp only [this]; rfl
        rw [e] at h1
        have := h1 _ rfl hx1 (fun x k q => zu_ne q)
        show K (Int32.ofNat c - 48) _ _
        rw [ed]; exact this
      · have hn : 48 ≤ sg r ∧ sg r ≤ 57 := Decidable.byContradiction fun z => y (by rw [if_neg z])
        match r, hn, hx1, h1 with
        | [], hn, _, _ => exact absurd hn.1 (by decide)
        | c2 :: r2, hn, hx1, h1 =>
          have hc2 := xT_c hx1
          have hf2 : pFig c2 = true := (pFig_of (by omega)).mp hn
          have e : pNum (c :: c2 :: r2) = (true, r2, 10 * (c - 48) + (c2 - 48)) := by
            unfold pNum
            simp only [hf, hf2, if_true]
          rw [e] at h1
          have := h1 _ rfl (xT_tl hx1) (fun x k q => by rw [zu_ne q, zu_ne q])
          show K (10 * (Int32.ofNat c - 48) + Int32.ofNat c2 - 48) _ _
          have e2 : 10 * (Int32.ofNat c - 48) + Int32.ofNat c2 - 48 = Int32.ofNat (10 * (c - 48) + (c2 - 48)) := by
            have hf2' := hf2
            unfold pFig at hf2'
            simp at hf2'
            rw [ed]
            show Int32.ofNat 10 * Int32.ofNat (c - 48) + Int32.ofNat c2 - Int32.ofNat 48 = _
            rw [← Int32.ofNat_mul, n_add, n_sub (by omega)]
            congr 1; omega
          rw [e2]; exact this
  · have hn : ¬ (48 ≤ sg l ∧ sg l ≤ 57) := fun z => x (by rw [if_pos z]; decide)
    match l, hx, hn, h0 with
    | [], _, _, h0 => exact h0 rfl rfl
    | c :: r, hx, hn, h0 =>
      have : ¬ pFig c = true := fun z => hn ((pFig_of (by have := xT_c hx; omega)).mpr z)
      have e : pNum (c :: r) = (false, c :: r, 0) := by unfold pNum; simp only [this]; rfl
      rw [e] at h0
      exact h0 rfl rfl
end SIGNS
