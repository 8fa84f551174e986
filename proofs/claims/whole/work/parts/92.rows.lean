/-! longestBehind: what is kept is thrown away when the rules are others. -/
def loN (L : Nat) : Nat := max 2 (min 6 L)
def hiN (H : Nat) : Nat := min 5 H
def kTri (p k : Nat) : Nat := k ||| (1024 - 2 ^ sTri p)
theorem k_tri : ∀ p : Nat, p < 6 → ∀ k : Nat, k < 1024 → (Int32.ofNat k ||| ((-1 : Int32) <<< (((Int32.ofNat p * (Int32.ofNat p - 1)) / 2) &&& 31))) &&& 1023 = Int32.ofNat (kTri p k) ∧ kTri p k < 1024 := by decide +kernel
theorem n_31 : ∀ h : Nat, h < 32 → Int32.ofNat h &&& 31 = Int32.ofNat h := by decide +kernel
theorem n_min (a b : Nat) (ha : a < 2147483648) (hb : b < 2147483648) : (if Int32.ofNat a < Int32.ofNat b then Int32.ofNat a else Int32.ofNat b) = Int32.ofNat (min a b) := by
  by_cases q : a < b
  · rw [if_pos ((n_lt ha hb).mpr q), Nat.min_eq_left (by omega)]
  · rw [if_neg (fun z => q ((n_lt ha hb).mp z)), Nat.min_eq_right (by omega)]
theorem n_max (a b : Nat) (ha : a < 2147483648) (hb : b < 2147483648) : (if Int32.ofNat a < Int32.ofNat b then Int32.ofNat b else Int32.ofNat a) = Int32.ofNat (max a b) := by
  by_cases q : a < b
  · rw [if_pos ((n_lt ha hb).mpr q), Nat.max_eq_right (by omega)]
  · rw [if_neg (fun z => q ((n_lt ha hb).mp z)), Nat.max_eq_left (by omega)]
theorem lo_n {L : Nat} (h : L < 2147483648) : (if (2 : Int32) < (if (6 : Int32) < Int32.ofNat L then 6 else Int32.ofNat L) then (if (6 : Int32) < Int32.ofNat L then 6 else Int32.ofNat L) else 2) = Int32.ofNat (loN L) := by
  have e : (if (6 : Int32) < Int32.ofNat L then 6 else Int32.ofNat L) = Int32.ofNat (min 6 L) := n_min 6 L (by decide) h
  rw [e]
  exact n_max 2 (min 6 L) (by decide) (Nat.lt_of_le_of_lt (Nat.min_le_left _ _) (by decide))
theorem hi_n {H : Nat} (h : H < 2147483648) : (if (5 : Int32) < Int32.ofNat H then 5 else Int32.ofNat H) = Int32.ofNat (hiN H) := n_min 5 H (by decide) h
def iMm (c : zI) (lc : zJ) : Prop := ∃ lo hi : Nat, c 17 1 = Int32.ofNat lo ∧ c 17 2 = Int32.ofNat hi ∧ lo < 100 ∧ hi < 100 ∧ iMem lo hi lc
/-- only what is kept of rows -/
def mM (c : zI) (lc : zJ) (c' : zI) (lc' : zJ) : Prop := (∀ x k, ¬ (x = 17 ∧ (k = 1 ∨ k = 2)) → c' x k = c x k) ∧ ∀ x y, x ≠ 18 → lc' x y = lc x y
theorem mM_rfl (c : zI) (lc : zJ) : mM c lc c lc := ⟨fun _ _ _ => rfl, fun _ _ _ => rfl⟩
theorem mM_tr {a b e : zI} {a' b' e' : zJ} (h : mM a a' b b') (q : mM b b' e e') : mM a a' e e' := ⟨fun x k z => by rw [q.1 x k z, h.1 x k z], fun x y z => by rw [q.2 x y z, h.2 x y z]⟩
section ROWS
variable {d : Nat} {X : zS} {fr nx : Nat} {P : zR0}
theorem t_76_31 {Q : zQ} {e p k h : Nat} {c : zI} {l0 : zJ} {lo hi : Nat} (he : iPc e) (hp : p < 6) (hk : k < 1024) (hh : h < 32) (h2 : 2 ≤ lo) (l6 : lo < 100) (h6 : hi < 100) (e1 : c 17 1 = Int32.ofNat lo) (e2 : c 17 2 = Int32.ofNat hi)
    (hQ : ∀ lc', iMem lo hi lc' → (∀ x y, x ≠ 18 → lc' x y = l0 x y) → Q (some (.int (Int32.ofNat (LC lo hi (kTri p k) h)))) c lc') :
    ∀ (j i : Nat) (lc : zJ), i + j = 2048 → (∀ x y, x ≠ 18 → lc x y = l0 x y) → (∀ y, y < i → lc 18 y = -1) → Wf (d + 13) 76 31 [.ref 17, .int (Int32.ofNat h), .int (Int32.ofNat p), .int (Int32.ofNat k), .retAddr 0, .retAddr 0, .retAddr 0, .int (Int32.ofNat i)] [] (zCS ++ X) (zCR fr nx P) c lc Q
  | 0, i, lc, e', hf, ha => by
    obtain rfl : i = 2048 := by omega
    obtain ⟨t1, t2⟩ := k_tri p hp k hk
    refine B_76_31 e _ _ _ _ he ⟨fun _ => ⟨by decide, ?_⟩, fun x => absurd (show (2048 : Int32) ≤ Int32.ofNat 2048 by decide) x⟩
    rw [t1, n_31 h hh]
    have hm : iMem lo hi lc := fun _ k0 h0 a b => by
      left
      unfold nAt
      rw [ha _ (by omega), nib_all _ (by omega)]
    refine t_77 (d := d) h2 l6 h6 e1 e2 10 _ _ 0 lc _ (opN_le _) (by decide) t2 hh hm (fun lc' hm' hf' => ?_)
    exact hQ lc' hm' (fun x y z => by rw [hf'.1 x y z, hf x y z])
  | j + 1, i, lc, e', hf, ha => by
    refine B_76_31 e _ _ _ _ he ⟨fun x => absurd ((n_le (a := 2048) (by decide) (by omega)).mp x) (by omega), fun _ => ⟨n_zin (by omega) (by decide), ?_⟩⟩
    rw [n_suc, n_cl (by omega)]
    refine t_76_31 he hp hk hh h2 l6 h6 e1 e2 hQ j (i + 1) _ (by omega) (fun x y z => by rw [zu_nc z]; exact hf x y z) (fun y hy => ?_)
    by_cases q : y = i
    · subst q; exact zu_eq
    · rw [zu_nk q]; exact ha y (by omega)
/-- longestBehind -/
theorem t_76 {K : Int32 → zI → zJ → Prop} {e p k h : Nat} {c : zI} {lc : zJ} {L H : Nat} (he : iPc e) (hp : p < 6) (hk : k < 1024) (hh : h < 32) (hL : L < 2147483648) (hH : H < 2147483648) (e0 : c e 0 = Int32.ofNat H) (e1 : c e 1 = Int32.ofNat L) (hm : iMm c lc)
    (hK : ∀ c' lc', iMm c' lc' → mM c lc c' lc' → K (Int32.ofNat (LC (loN L) (hiN H) (kTri p k) h)) c' lc') : TI (d + 13) 76 [.ref 17, .int (Int32.ofNat h), .int (Int32.ofNat p), .int (Int32.ofNat k), .ref e] (zCS ++ X) (zCR fr nx P) c lc K := by
  refine TI_of (B_76 _ _ _ e he ?_)
  rw [e0, e1, lo_n hL, hi_n hH]
  have h2 : 2 ≤ loN L := Nat.le_max_left _ _
  have l6 : loN L < 100 := by
    have : min 6 L ≤ 6 := Nat.min_le_left _ _
    unfold loN; omega
  have h6 : hiN H < 100 := by
    have : min 5 H ≤ 5 := Nat.min_le_left _ _
    unfold hiN; omega
  obtain ⟨t1, t2⟩ := k_tri p hp k hk
  have reset : Wf (d + 13) 76 31 [.ref 17, .int (Int32.ofNat h), .int (Int32.ofNat p), .int (Int32.ofNat k), .retAddr 0, .retAddr 0, .retAddr 0, .int (Int32.ofNat 0)] [] (zCS ++ X) (zCR fr nx P) (zu (zu c 17 1 (Int32.ofNat (loN L))) 17 2 (Int32.ofNat (hiN H))) lc (qI K) := by
    have f1 : zu (zu c 17 1 (Int32.ofNat (loN L))) 17 2 (Int32.ofNat (hiN H)) 17 1 = Int32.ofNat (loN L) := by rw [zu_nk (by decide), zu_eq]
    refine t_76_31 he hp hk hh h2 l6 h6 f1 zu_eq (fun lc' hm' hf' => ?_) 2048 0 lc rfl (fun _ _ _ => rfl) (fun y hy => absurd hy (Nat.not_lt_zero y))
    refine hK _ lc' ⟨_, _, f1, zu_eq, l6, h6, hm'⟩ ⟨fun x y z => ?_, hf'⟩
    rw [zu_ne (fun q => z ⟨q.1, .inr q.2⟩), zu_ne (fun q => z ⟨q.1, .inl q.2⟩)]
  refine ⟨fun _ => reset, fun x => ⟨fun y => ⟨by decide, ?_⟩, fun _ => reset⟩⟩
  obtain ⟨lo, hi, q1, q2, q3, q4, q5⟩ := hm
  have x := Decidable.not_not.mp x
  rw [q1] at x
  rw [q2] at y
  have x' := (n_eq (by omega) (by omega)).mp x
  have y' := (n_eq (by omega) (by omega)).mp y
  subst x'
  subst y'
  rw [t1, n_31 h hh]
  exact t_77 (d := d) h2 l6 h6 q1 q2 10 _ _ 0 lc _ (opN_le _) (by decide) t2 hh q5 (fun lc' hm' hf' => hK c lc' ⟨_, _, q1, q2, l6, h6, hm'⟩ ⟨fun _ _ _ => rfl, hf'.1⟩)
end ROWS
