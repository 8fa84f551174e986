/-! The model: what a plan takes. -/
def oN (g : Nat) : Nat := (sOnes (Int32.ofNat g) 10).toNatClampNeg
theorem oN_ok : ∀ g : Nat, g < 32 → sOnes (Int32.ofNat g) 10 = Int32.ofNat (oN g) ∧ oN g ≤ 5 := by decide +kernel
def few1 (q g : Nat) : Nat := if oN g < q then oN g else q
/-- the fewest; the groups of the fewest -/
def sFew (l : List Nat) : Nat := l.foldl few1 9
def sSpar (l : List Nat) : List Nat := l.filter (fun g => oN g == sFew l)
theorem sFew_snoc (l : List Nat) (g : Nat) : sFew (l ++ [g]) = few1 (sFew l) g := by unfold sFew; rw [List.foldl_append]; rfl
theorem few_fold : ∀ (l : List Nat) (b : Nat), l.foldl few1 b ≤ b ∧ (∀ x, x ∈ l → l.foldl few1 b ≤ oN x) ∧ (l.foldl few1 b = b ∨ ∃ x, x ∈ l ∧ oN x = l.foldl few1 b)
  | [], b => ⟨Nat.le_refl _, fun x h => (by cases h), .inl rfl⟩
  | g :: l, b => by
    obtain ⟨h1, h2, h3⟩ := few_fold l (few1 b g)
    rw [List.foldl_cons]
    have e : few1 b g ≤ b ∧ few1 b g ≤ oN g ∧ (few1 b g = b ∨ few1 b g = oN g) := by unfold few1; split <;> omega
    refine ⟨by omega, fun x hx => ?_, ?_⟩
    · rcases List.mem_cons.mp hx with rfl | hx
      · omega
      · exact h2 x hx
    · rcases h3 with h3 | ⟨x, hx, h3⟩
      · rcases e.2.2 with e3 | e3
        · exact .inl (by omega)
        · exact .inr ⟨g, List.mem_cons_self .., by omega⟩
      · exact .inr ⟨x, List.mem_cons_of_mem _ hx, h3⟩
theorem sFew_le {l : List Nat} {x : Nat} (h : x ∈ l) : sFew l ≤ oN x := (few_fold l 9).2.1 x h
theorem sFew_9 (l : List Nat) : sFew l ≤ 9 := (few_fold l 9).1
theorem sSpar_mem {l : List Nat} {x : Nat} : x ∈ sSpar l ↔ x ∈ l ∧ oN x = sFew l := by unfold sSpar; rw [List.mem_filter]; simp
theorem sSpar_pos {l : List Nat} (hn : l ≠ []) (h : ∀ x, x ∈ l → x < 32) : 0 < (sSpar l).length := by
  have : ∃ x, x ∈ sSpar l := by
    rcases (few_fold l 9).2.2 with q | ⟨x, hx, q⟩
    · match l, hn with
      | x :: l, _ =>
        have h1 := sFew_le (List.mem_cons_self (a := x) (l := l))
        have h2 := (oN_ok x (h x (List.mem_cons_self ..))).2
        unfold sFew at h1
        omega
    · exact ⟨x, sSpar_mem.mpr ⟨hx, q⟩⟩
  obtain ⟨x, hx⟩ := this
  exact List.length_pos_of_mem hx
theorem sSpar_snoc (l : List Nat) (g : Nat) : (sSpar (l ++ [g])).length = if oN g < sFew l then 1 else if oN g = sFew l then (sSpar l).length + 1 else (sSpar l).length := by
  have e0 := sFew_snoc l g
  unfold few1 at e0
  unfold sSpar
  rw [List.filter_append, List.length_append, e0]
  by_cases h : oN g < sFew l
  · rw [if_pos h, if_pos h]
    have : l.filter (fun x => oN x == oN g) = [] := by
      rw [List.filter_eq_nil_iff]
      intro x hx
      have := sFew_le hx
      simp only [beq_iff_eq]; omega
    rw [this]; simp
  · rw [if_neg h, if_neg h]
    by_cases h1 : oN g = sFew l
    · rw [if_pos h1, List.filter_cons_of_pos (by simp [h1])]; simp
    · rw [if_neg h1, List.filter_cons_of_neg (by simp [h1])]; simp
section TAKE
variable {d : Nat} {ml : zJ}
theorem t_216_51 {Q : zQ} {mi : zI} {l : List Nat} {few : Nat} (hf : few ≤ 9) (hl : l.length ≤ 31) (hL : mL mi l) (h32 : ∀ x, x ∈ l → x < 32) : ∀ (l2 : List Nat) (i j : Nat), l.drop i = l2 → j < (l2.filter (fun g => oN g == few)).length → Q (some (.int (Int32.ofNat ((l2.filter (fun g => oN g == few)).getD j 0)))) mi ml →
      Wf (d + 2) 216 51 [.ref 0, .retAddr 0, .int (Int32.ofNat few), .retAddr 0, .int (Int32.ofNat j), .int (Int32.ofNat i)] [] zMS zMR mi ml Q
  | [], i, j, e, hj, h => absurd hj (Nat.not_lt_zero _)
  | g :: l2, i, j, e, hj, h => by
    have hi : i < l.length := by
      refine Decidable.byContradiction fun q => ?_
      rw [List.drop_eq_nil_of_le (by omega)] at e
      exact absurd e (by simp)
    have e1 := List.drop_eq_getElem_cons hi
    rw [e] at e1
    injection e1 with e1 e2
    have hz : zin (Int32.ofNat i) 31 = true := n_zin (by omega) (by omega)
    have hgi : mi 25 i = Int32.ofNat g := by rw [hL.2 i hi, List.getD_eq_getElem?_getD, List.getElem?_eq_getElem hi, e1]; rfl
    have hg : g < 32 := h32 g (by rw [e1]; exact List.getElem_mem hi)
    obtain ⟨o1, o2⟩ := oN_ok g hg
    refine B_216_51 _ _ _ ⟨fun n => ?_, fun _ => ⟨hz, ?_⟩⟩
    · rw [hL.1] at n; exact absurd ((n_le (by omega) (by omega)).mp n) (by omega)
    rw [n_suc, n_cl (by omega), hgi]
    refine t_184 _ ?_
    rw [o1]
    refine ⟨fun n => ?_, fun n => ⟨fun n1 => ?_, fun n1 => ⟨hz, ?_⟩⟩⟩
    · have hne : ¬ oN g = few := fun q => n (by rw [q])
      rw [List.filter_cons_of_neg (by simp [hne])] at hj h
      exact t_216_51 hf hl hL h32 l2 (i + 1) j e2.symm hj h
    · have heq : oN g = few := (n_eq (by omega) (by omega)).mp (Decidable.not_not.mp n)
      rw [List.filter_cons_of_pos (by simp [heq])] at hj h
      obtain ⟨j1, rfl⟩ : ∃ j1, j = j1 + 1 := by
        cases j with
        | zero => exact absurd rfl n1
        | succ j1 => exact ⟨j1, rfl⟩
      rw [n_predn]
      simp only [List.length_cons] at hj
      exact t_216_51 hf hl hL h32 l2 (i + 1) j1 e2.symm (by omega) h
    · have heq : oN g = few := (n_eq (by omega) (by omega)).mp (Decidable.not_not.mp n)
      rw [List.filter_cons_of_pos (by simp [heq])] at hj h
      have hj0 : j = 0 := by
        simp only [List.length_cons] at hj
        have hlen : (l2.filter (fun g => oN g == few)).length ≤ l2.length := List.length_filter_le ..
        have : l2.length ≤ 31 := by rw [e2, List.length_drop]; omega
        exact (n_eq (b := 0) (by omega) (by omega)).mp (Decidable.not_not.mp n1)
      subst hj0
      rw [hgi]; exact h
theorem t_216_7 {Q : zQ} {mi : zI} {l : List Nat} {v : Nat} (hv : v < 10) (hc : iCr 100000 mi) (hl : l.length ≤ 31) (hne : l ≠ []) (hL : mL mi l) (h32 : ∀ x, x ∈ l → x < 32) (h : Q (some (.int (Int32.ofNat ((sSpar l).getD ((v + mCr mi) % (sSpar l).length) 0)))) mi ml) : ∀ (m i : Nat), i + m = l.length →
      Wf (d + 2) 216 7 [.ref 0, .int (Int32.ofNat v), .int (Int32.ofNat (sFew (l.take i))), .int (Int32.ofNat (sSpar (l.take i)).length), .int (Int32.ofNat i), .retAddr 0] [] zMS zMR mi ml Q
  | 0, i, e => by
    obtain rfl : i = l.length := by omega
    have hp := sSpar_pos hne h32
    have hle : (sSpar l).length ≤ l.length := List.length_filter_le ..
    obtain ⟨c1, c2⟩ := hc
    rw [List.take_length]
    refine B_216_7 _ _ _ _ ⟨fun _ => ⟨fun q => ?_, ?_⟩, fun n => ?_⟩
    · have := (n_eq (b := 0) (by omega) (by omega)).mp q; omega
    · rw [c1, n_add, n_mod (by omega) (by omega)]
      have := sFew_9 l
      exact t_216_51 (few := sFew l) (by omega) hl hL h32 l 0 _ rfl (Nat.mod_lt _ hp) h
    · rw [hL.1] at n; exact absurd (Int32.le_refl _) n
  | m + 1, i, e => by
    have hz : zin (Int32.ofNat i) 31 = true := n_zin (by omega) (by omega)
    have hgi : l.getD i 0 ∈ l := by rw [List.getD_eq_getElem?_getD, List.getElem?_eq_getElem (by omega)]; exact List.getElem_mem _
    have ih := t_216_7 hv hc hl hne hL h32 h m (i + 1) (by omega)
    rw [take_snoc (by omega), sFew_snoc, sSpar_snoc, few1] at ih
    obtain ⟨o1, o2⟩ := oN_ok _ (h32 _ hgi)
    have h9 := sFew_9 (l.take i)
    refine B_216_7 _ _ _ _ ⟨fun n => ?_, fun _ => ⟨hz, ?_⟩⟩
    · rw [hL.1] at n; exact absurd ((n_le (by omega) (by omega)).mp n) (by omega)
    rw [n_suc, n_cl (by omega), hL.2 i (by omega)]
    refine t_184 _ ?_
    rw [o1]
    refine ⟨fun e1 => ⟨fun e2 => ⟨fun _ => ?_, fun e3 => absurd e1 e3⟩, fun e2 => ⟨fun _ => ?_, fun e3 => absurd e1 e3⟩⟩, fun e1 => ⟨fun e3 => absurd e3 e1, fun _ => ?_⟩⟩
    · have g1 := (n_le (by omega) (by omega)).mp e1
      have g2 : ¬ oN (l.getD i 0) = sFew (l.take i) := fun q => e2 (by rw [q])
      rw [if_neg (by omega), if_neg (by omega), if_neg g2] at ih
      exact ih
    · have g1 := (n_le (by omega) (by omega)).mp e1
      have g2 : oN (l.getD i 0) = sFew (l.take i) := (n_eq (by omega) (by omega)).mp (Decidable.not_not.mp e2)
      rw [if_neg (by omega), if_neg (by omega), if_pos g2] at ih
      rw [n_suc]; exact ih
    · have g1 : ¬ sFew (l.take i) ≤ oN (l.getD i 0) := fun q => e1 ((n_le (by omega) (by omega)).mpr q)
      rw [if_pos (by omega), if_pos (by omega)] at ih
      exact ih
theorem t_216 {K : Int32 → zI → zJ → Prop} {mi : zI} {l : List Nat} {v : Nat} (hv : v < 10) (hc : iCr 100000 mi) (hl : l.length ≤ 31) (hne : l ≠ []) (hL : mL mi l) (h32 : ∀ x, x ∈ l → x < 32) (h : K (Int32.ofNat ((sSpar l).getD ((v + mCr mi) % (sSpar l).length) 0)) mi ml) : TI (d + 2) 216 [.ref 0, .int (Int32.ofNat v)] zMS zMR mi ml K :=
  TI_of (B_216 _ (t_216_7 (Q := qI K) hv hc hl hne hL h32 h l.length 0 (by omega)))
end TAKE
/-- what a plan takes; 0: there is none -/
def mTk (m : zI) (p : Nat) : Nat :=
  if gl (mGoes m) 32 = [] then 0
  else if mKd m p = 1 then pk (mRank m 1) (gl (mGoes m) 32)
  else if mKd m p = 2 then pk (mRank m 2) (gl (mGoes m) 32)
  else if mKd m p = 3 then (gl (mGoes m) 32).getD ((mV m p + mCr m) % (gl (mGoes m) 32).length) 0
  else if mKd m p = 4 then pk (mRank m 4) (gl (mGoes m) 32)
  else if mKd m p = 5 then (if 1 ≤ mTl m (3 * p + mCr m % 3) ∧ mGoes m (mTl m (3 * p + mCr m % 3)) then mTl m (3 * p + mCr m % 3) else pk (mRank m 2) (gl (mGoes m) 32))
  else if mKd m p = 6 then (sSpar (gl (mGoes m) 32)).getD ((mV m p + mCr m) % (sSpar (gl (mGoes m) 32)).length) 0
  else (gl (mGoes m) 32).getD 0 0
