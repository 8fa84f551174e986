/-! shift. -/
/-- n items fit -/
def shOK (m : zI) (t i o j n : Nat) : Prop := i + n ≤ mSz m t ∧ j + n ≤ mSz m o
section SHIFTC
variable {d : Nat} {X : zS} {fr nx : Nat} {P : zR0} {c m : zI} {lc lm : zJ} {a b e f g : Int32}
theorem zin_0 {i n k : Nat} (h : i + n ≤ k) : (Int32.ofNat i).toNatClampNeg + (Int32.ofNat n).toNatClampNeg ≤ k ∨ ¬ (i < 2147483648 ∧ n < 2147483648) := by
  by_cases q : i < 2147483648 ∧ n < 2147483648
  · exact .inl (by rw [n_cl q.1, n_cl q.2]; exact h)
  · exact .inr q
theorem t_154 {K : Int32 → zI → zJ → Prop} (hT : rTap c lc m lm) (h1 : ¬ ((0 ≤ a ∧ a ≤ 5) ∧ (0 ≤ e ∧ e ≤ 5)) → K (-1) c lc)
    (h2 : ∀ t o, t < 6 → o < 6 → a = Int32.ofNat t → e = Int32.ofNat o → (m 14 t = -1 ∨ m 14 o = -1) → K (-11) c lc)
    (h3 : ∀ t o, t < 6 → o < 6 → a = Int32.ofNat t → e = Int32.ofNat o → ¬ (m 14 t = -1 ∨ m 14 o = -1) → ¬ m 14 t = m 14 o → K (-12) c lc)
    (h4 : ∀ t o, t < 6 → o < 6 → a = Int32.ofNat t → e = Int32.ofNat o → ¬ (m 14 t = -1 ∨ m 14 o = -1) → m 14 t = m 14 o → (g < 0 ∨ b < 0 ∨ f < 0 ∨ ∃ i j n, i < 2147483648 ∧ j < 2147483648 ∧ n < 2147483648 ∧ b = Int32.ofNat i ∧ f = Int32.ofNat j ∧ g = Int32.ofNat n ∧ ¬ shOK m t i o j n) → K (-13) c lc)
    (h : ∀ t o i j n, t < 6 → o < 6 → a = Int32.ofNat t → e = Int32.ofNat o → ¬ (m 14 t = -1 ∨ m 14 o = -1) → m 14 t = m 14 o → i < 2147483648 → j < 2147483648 → n < 2147483648 → b = Int32.ofNat i → f = Int32.ofNat j → g = Int32.ofNat n → shOK m t i o j n → K g c (zcp lc (36 + o) (lc (36 + t)) i j n)) : TI (d + 2) 154 [.ref 0, .int a, .int b, .int e, .int f, .int g] (zCS ++ X) (zCR fr nx P) c lc K := by
  refine TI_of (B_154 _ _ _ _ _ (t_124 (d := d) ?_))
  by_cases qa : 0 ≤ a ∧ a ≤ 5
  · rw [if_pos qa]
    refine ⟨fun z => absurd z one_ne, fun _ => t_124 (d := d) ?_⟩
    by_cases qe : 0 ≤ e ∧ e ≤ 5
    · rw [if_pos qe]
      obtain ⟨t, t6, ea, ec⟩ := n_tape qa.1 qa.2
      obtain ⟨o, o6, eo, ed⟩ := n_tape qe.1 qe.2
      obtain ⟨c1, c2, c3⟩ := hT.1 t t6
      obtain ⟨d1, d2, d3⟩ := hT.1 o o6
      obtain ⟨i1, i2, i3⟩ := hT.2 t t6
      obtain ⟨j1, j2, j3⟩ := hT.2 o o6
      obtain ⟨z1, z2, z3⟩ := tp_row (X := X) (fr := fr) (nx := nx) (P := P) t6
      obtain ⟨y1, y2, y3⟩ := tp_row (X := X) (fr := fr) (nx := nx) (P := P) o6
      have hz := n_zin (k := t) (n := 6) t6 (by decide)
      have hy := n_zin (k := o) (n := 6) o6 (by decide)
      subst ea
      subst eo
      refine ⟨fun _ => ⟨hz, ?_⟩, fun z => absurd one_ne z⟩
      rw [n_cl (show t < 2147483648 by omega), n_cl (show o < 2147483648 by omega), c1, d1, c2, d2]
      refine ⟨fun w => h2 t o t6 o6 rfl rfl (.inl w), fun w => ⟨hy, fun v => ⟨hz, hy, fun u => ?_, fun u => h3 t o t6 o6 rfl rfl (fun q => q.elim w v) u⟩, fun v => h2 t o t6 o6 rfl rfl (.inr (Decidable.not_not.mp v))⟩⟩
      have ns : ¬ (m 14 t = -1 ∨ m 14 o = -1) := fun q => q.elim w v
      have h4 := h4 t o t6 o6 rfl rfl ns u
      refine ⟨fun s => h4 (.inl s), fun s => ⟨fun s' => h4 (.inr (.inl s')), fun s' => ⟨fun s'' => h4 (.inr (.inr (.inl s''))), fun s'' => ?_⟩⟩⟩
      obtain ⟨n, hn, rfl⟩ := n_nat s
      obtain ⟨i, hi, rfl⟩ := n_nat s'
      obtain ⟨j, hj, rfl⟩ := n_nat s''
      have h4 := fun q => h4 (.inr (.inr (.inr ⟨i, j, n, hi, hj, hn, rfl, rfl, rfl, q⟩)))
      have sI : ∀ k q : Nat, k < 2147483648 → q ≤ 60 → (0 < lg_cmp ((Int32.ofNat k).toInt64 + (Int32.ofNat n).toInt64) (Int32.ofNat q).toInt64 ↔ q < k + n) := fun k q hk hq => by
        rw [lg_gt, l_of hk, l_of hn, l_of (show q < 2147483648 by omega), l_add, l_int (by omega), l_int (by omega)]
        omega
      rw [i2, j2]
      refine ⟨hz, fun r => h4 (fun q => absurd ((sI i _ hi i3).mp r) (by have := q.1; omega)), fun r => ⟨hy, fun r' => ⟨hz, ?_⟩, fun r' => h4 (fun q => ?_)⟩⟩
      · have ok1 : i + n ≤ mSz m t := Nat.le_of_not_lt (fun q => r ((sI i _ hi i3).mpr q))
        have ok2 : j + n ≤ mSz m o := Nat.le_of_not_lt (fun q => absurd ((sI j _ hj j3).mpr q) (Int32.not_lt.mpr r'))
        rw [z1, y1]
        refine ⟨by omega, fun x3 e3 => ?_⟩
        obtain rfl : x3 = 36 + t := by omega
        refine ⟨hy, by omega, fun x4 e4 => ?_⟩
        obtain rfl : x4 = 36 + o := by omega
        rw [z2, y2, z3, y3, n_cl hi, n_cl hj, n_cl hn]
        refine ⟨rfl, ⟨s', s'', s, by omega, by omega⟩, ?_⟩
        exact h t o i j n t6 o6 rfl rfl ns u hi hj hn rfl rfl rfl ⟨ok1, ok2⟩
      · exact r' (Int32.not_lt.mp (fun z => absurd ((sI j _ hj j3).mp z) (by have := q.2; omega)))
    · rw [if_neg qe]
      exact ⟨fun z => absurd rfl z, fun _ => h1 (fun z => qe z.2)⟩
  · rw [if_neg qa]
    exact ⟨fun _ => h1 (fun z => qa z.1), fun z => absurd rfl z⟩
end SHIFTC
section SHIFTM
variable {d : Nat} {m : zI} {a b e f g : Int32}
theorem t_257_96 {Q : zQ} {o j n : Nat} {l0 : zJ} (ho : o < 6) (hj : j + n ≤ 60) (h : ∀ lm', (∀ x k, x ≠ 16 → lm' x k = l0 x k) → (∀ k, lm' 16 k = if 60 * o + j ≤ k ∧ k < 60 * o + j + n then l0 33 (k - (60 * o + j)) else l0 16 k) → Q (some (.int (Int32.ofNat n))) m lm') : ∀ (r k : Nat) (lm : zJ), k + r = n → (∀ x q, x ≠ 16 → lm x q = l0 x q) → (∀ q, lm 16 q = if 60 * o + j ≤ q ∧ q < 60 * o + j + k then l0 33 (q - (60 * o + j)) else l0 16 q) → Wf (d + 1) 257 96 [.ref 0, .retAddr 0, .retAddr 0, .int (Int32.ofNat o), .int (Int32.ofNat j), .int (Int32.ofNat n), .int (Int32.ofNat k)] [] zMS zMR m lm Q
  | 0, k, lm, e, hf, hv => by
    obtain rfl : k = n := by omega
    exact B_257_96 _ _ _ _ ⟨fun _ => h lm hf hv, fun y => absurd (Int32.le_refl _) y⟩
  | r + 1, k, lm, e, hf, hv => by
    refine B_257_96 _ _ _ _ ⟨fun y => absurd ((n_le (by omega) (by omega)).mp y) (by omega), fun _ => ⟨n_zin (by omega) (by decide), ?_⟩⟩
    rw [n_60, n_add, n_suc, n_cl (show 60 * o + j + k < 2147483648 by omega), n_cl (show k < 2147483648 by omega)]
    refine ⟨n_zin (by omega) (by decide), t_257_96 ho hj h r (k + 1) _ (by omega) (fun x q hx => by rw [zu_nc hx]; exact hf x q hx) (fun q => ?_)⟩
    by_cases w : q = 60 * o + j + k
    · rw [w, zu_eq, if_pos (by omega), hf 33 k (by decide)]
      congr 1
      omega
    · rw [zu_nk w, hv q]
      by_cases w2 : 60 * o + j ≤ q ∧ q < 60 * o + j + k
      · rw [if_pos w2, if_pos (by omega)]
      · rw [if_neg w2, if_neg (by omega)]
theorem t_257_73 {Q : zQ} {t i o j n : Nat} {l0 : zJ} (ht : t < 6) (hi : i + n ≤ 60) (hj : j < 2147483648) (ho : o < 6) (h : ∀ lm', (∀ x k, x ≠ 33 → lm' x k = l0 x k) → (∀ k, k < n → lm' 33 k = l0 16 (60 * t + i + k)) → Wf (d + 1) 257 96 [.ref 0, .retAddr 0, .retAddr 0, .int (Int32.ofNat o), .int (Int32.ofNat j), .int (Int32.ofNat n), .int 0] [] zMS zMR m lm' Q) : ∀ (r k : Nat) (lm : zJ), k + r = n → (∀ x q, x ≠ 33 → lm x q = l0 x q) → (∀ q, q < k → lm 33 q = l0 16 (60 * t + i + q)) → Wf (d + 1) 257 73 [.ref 0, .int (Int32.ofNat t), .int (Int32.ofNat i), .int (Int32.ofNat o), .int (Int32.ofNat j), .int (Int32.ofNat n), .int (Int32.ofNat k)] [] zMS zMR m lm Q
  | 0, k, lm, e, hf, hv => by
    obtain rfl : k = n := by omega
    exact B_257_73 _ _ _ _ _ _ ⟨fun _ => h lm hf hv, fun y => absurd (Int32.le_refl _) y⟩
  | r + 1, k, lm, e, hf, hv => by
    refine B_257_73 _ _ _ _ _ _ ⟨fun y => absurd ((n_le (by omega) (by omega)).mp y) (by omega), fun _ => ?_⟩
    rw [n_60, n_add, n_suc, n_cl (show 60 * t + i + k < 2147483648 by omega), n_cl (show k < 2147483648 by omega)]
    refine ⟨n_zin (by omega) (by decide), n_zin (by omega) (by decide), t_257_73 ht hi hj ho h r (k + 1) _ (by omega) (fun x q hx => by rw [zu_nc hx]; exact hf x q hx) (fun q hq => ?_)⟩
    by_cases w : q = k
    · rw [w, zu_eq, hf 16 _ (by decide)]
    · rw [zu_nk w]; exact hv q (by omega)
theorem n_sb {a b c : Nat} (ha : a ≤ 60) (hb : b ≤ a) (hc : c < 2147483648) : (Int32.ofNat a - Int32.ofNat b < Int32.ofNat c ↔ a < b + c) ∧ (Int32.ofNat c ≤ Int32.ofNat a - Int32.ofNat b ↔ b + c ≤ a) := by
  rw [n_sub hb, n_lt (by omega) hc, n_le hc (by omega)]
  omega
theorem t_257 {K : Int32 → zI → zJ → Prop} {lm : zJ} (hT : iTp m) (h1 : ¬ ((0 ≤ a ∧ a ≤ 5) ∧ (0 ≤ e ∧ e ≤ 5)) → K (-1) m lm)
    (h2 : ∀ t o, t < 6 → o < 6 → a = Int32.ofNat t → e = Int32.ofNat o → (m 14 t = -1 ∨ m 14 o = -1) → K (-11) m lm)
    (h3 : ∀ t o, t < 6 → o < 6 → a = Int32.ofNat t → e = Int32.ofNat o → ¬ (m 14 t = -1 ∨ m 14 o = -1) → ¬ m 14 t = m 14 o → K (-12) m lm)
    (h4 : ∀ t o, t < 6 → o < 6 → a = Int32.ofNat t → e = Int32.ofNat o → ¬ (m 14 t = -1 ∨ m 14 o = -1) → m 14 t = m 14 o → (g < 0 ∨ b < 0 ∨ f < 0 ∨ ∃ i j n, i < 2147483648 ∧ j < 2147483648 ∧ n < 2147483648 ∧ b = Int32.ofNat i ∧ f = Int32.ofNat j ∧ g = Int32.ofNat n ∧ ¬ shOK m t i o j n) → K (-13) m lm)
    (h : ∀ t o i j n, t < 6 → o < 6 → a = Int32.ofNat t → e = Int32.ofNat o → ¬ (m 14 t = -1 ∨ m 14 o = -1) → m 14 t = m 14 o → i < 2147483648 → j < 2147483648 → n < 2147483648 → b = Int32.ofNat i → f = Int32.ofNat j → g = Int32.ofNat n → shOK m t i o j n → ∀ lm', (∀ k, lm' 16 k = if 60 * o + j ≤ k ∧ k < 60 * o + j + n then lm 16 (60 * t + i + (k - (60 * o + j))) else lm 16 k) → K g m lm') : TI (d + 3) 257 [.ref 0, .int a, .int b, .int e, .int f, .int g] zMS zMR m lm K := by
  refine TI_of (B_257 _ _ _ _ _ (t_241 (d := d) ?_))
  by_cases qa : 0 ≤ a ∧ a ≤ 5
  · rw [if_pos qa]
    refine ⟨fun z => absurd z one_ne, fun _ => t_241 (d := d) ?_⟩
    by_cases qe : 0 ≤ e ∧ e ≤ 5
    · rw [if_pos qe]
      obtain ⟨t, t6, ea, ec⟩ := n_tape qa.1 qa.2
      obtain ⟨o, o6, eo, ed⟩ := n_tape qe.1 qe.2
      obtain ⟨i1, i2, i3⟩ := hT t t6
      obtain ⟨j1, j2, j3⟩ := hT o o6
      have hz := n_zin (k := t) (n := 6) t6 (by decide)
      have hy := n_zin (k := o) (n := 6) o6 (by decide)
      subst ea
      subst eo
      refine ⟨fun _ => ⟨hz, ?_⟩, fun z => absurd one_ne z⟩
      rw [n_cl (show t < 2147483648 by omega), n_cl (show o < 2147483648 by omega), i2, j2]
      refine ⟨fun w => h2 t o t6 o6 rfl rfl (.inl w), fun w => ⟨hy, fun v => ⟨hz, hy, fun u => ?_, fun u => h3 t o t6 o6 rfl rfl (fun q => q.elim w v) u⟩, fun v => h2 t o t6 o6 rfl rfl (.inr (Decidable.not_not.mp v))⟩⟩
      have ns : ¬ (m 14 t = -1 ∨ m 14 o = -1) := fun q => q.elim w v
      have h4 := h4 t o t6 o6 rfl rfl ns u
      refine ⟨fun s => h4 (.inl s), fun s => ⟨fun s' => h4 (.inr (.inl s')), fun s' => ⟨fun s'' => h4 (.inr (.inr (.inl s''))), fun s'' => ?_⟩⟩⟩
      obtain ⟨n, hn, rfl⟩ := n_nat s
      obtain ⟨i, hi, rfl⟩ := n_nat s'
      obtain ⟨j, hj, rfl⟩ := n_nat s''
      have h4 := fun q => h4 (.inr (.inr (.inr ⟨i, j, n, hi, hj, hn, rfl, rfl, rfl, q⟩)))
      refine ⟨hz, fun r => h4 (fun q => ?_), fun r => ⟨hy, fun r1 => h4 (fun q => ?_), fun r1 => ⟨hz, fun r2 => h4 (fun q => ?_), fun r2 => ⟨hy, fun r3 => ?_, fun r3 => h4 (fun q => ?_)⟩⟩⟩⟩
      · have := (n_lt (by omega) hi).mp r
        have := q.1
        omega
      · have := (n_lt (by omega) hj).mp r1
        have := q.2
        omega
      · have r := Nat.le_of_not_lt (fun q => r ((n_lt (by omega) hi).mpr q))
        have := (n_sb i3 r hn).1.mp r2
        have := q.1
        omega
      · have r := Nat.le_of_not_lt (fun q => r ((n_lt (by omega) hi).mpr q))
        have r1 := Nat.le_of_not_lt (fun q => r1 ((n_lt (by omega) hj).mpr q))
        have k1 : i + n ≤ mSz m t := Nat.le_of_not_lt (fun q => r2 ((n_sb i3 r hn).1.mpr q))
        have k2 : j + n ≤ mSz m o := (n_sb j3 r1 hn).2.mp r3
        refine t_257_73 (d := d + 2) t6 (by omega) hj o6 (fun l1 f1 v1 => ?_) n 0 lm (by omega) (fun _ _ _ => rfl) (fun q hq => absurd hq (Nat.not_lt_zero _))
        refine t_257_96 (d := d + 2) o6 (by omega) (fun l2 f2 v2 => ?_) n 0 l1 (by omega) (fun _ _ _ => rfl) (fun q => by rw [if_neg (by omega)])
        refine h t o i j n t6 o6 rfl rfl ns u hi hj hn rfl rfl rfl ⟨k1, k2⟩ l2 (fun k => ?_)
        rw [v2 k]
        by_cases w2 : 60 * o + j ≤ k ∧ k < 60 * o + j + n
        · rw [if_pos w2, if_pos w2, v1 _ (by omega)]
        · rw [if_neg w2, if_neg w2, f1 16 k (by decide)]
      · have r1 := Nat.le_of_not_lt (fun q => r1 ((n_lt (by omega) hj).mpr q))
        exact r3 ((n_sb j3 r1 hn).2.mpr q.2)
    · rw [if_neg qe]
      exact ⟨fun z => absurd rfl z, fun _ => h1 (fun z => qe z.2)⟩
  · rw [if_neg qa]
    exact ⟨fun _ => h1 (fun z => qa z.1), fun z => absurd rfl z⟩
end SHIFTM
theorem n_neg {k : Nat} (h : k < 2147483648) : ¬ Int32.ofNat k < 0 := fun z => absurd ((n_lt (b := 0) h (by decide)).mp z) (Nat.not_lt_zero _)
theorem s_shift {a b e f g : Int32} : sI 154 257 [.int a, .int b, .int e, .int f, .int g] := by
  intro X fr nx P c lc m lm h
  have hT := h.2.2.2.2.1
  refine TG_I (t_154 (d := 38) hT (fun z => ?_) (fun t o t6 o6 ea eo z => ?_) (fun t o t6 o6 ea eo z w => ?_) (fun t o t6 o6 ea eo z w v => ?_) (fun t o i j n t6 o6 ea eo z w hi hj hn ei ej en ok => ?_))
  · exact t_257 (d := 37) hT.2 (fun _ => ⟨rfl, h⟩) (fun t o t6 o6 ea eo => absurd ⟨in_tape ea t6, in_tape eo o6⟩ z) (fun t o t6 o6 ea eo => absurd ⟨in_tape ea t6, in_tape eo o6⟩ z) (fun t o t6 o6 ea eo => absurd ⟨in_tape ea t6, in_tape eo o6⟩ z) (fun t o _ _ _ t6 o6 ea eo => absurd ⟨in_tape ea t6, in_tape eo o6⟩ z)
  · refine t_257 (d := 37) hT.2 (fun y => absurd ⟨in_tape ea t6, in_tape eo o6⟩ y) (fun _ _ _ _ _ _ _ => ⟨rfl, h⟩) (fun t' o' t6' o6' ea' eo' y => ?_) (fun t' o' t6' o6' ea' eo' y => ?_) (fun t' o' _ _ _ t6' o6' ea' eo' y => ?_)
    all_goals
      obtain rfl := n_inj32 ea ea' (by omega) (by omega)
      obtain rfl := n_inj32 eo eo' (by omega) (by omega)
      exact absurd z y
  · refine t_257 (d := 37) hT.2 (fun y => absurd ⟨in_tape ea t6, in_tape eo o6⟩ y) (fun t' o' t6' o6' ea' eo' y => ?_) (fun _ _ _ _ _ _ _ _ => ⟨rfl, h⟩) (fun t' o' t6' o6' ea' eo' _ y => ?_) (fun t' o' _ _ _ t6' o6' ea' eo' _ y => ?_)
    all_goals
      obtain rfl := n_inj32 ea ea' (by omega) (by omega)
      obtain rfl := n_inj32 eo eo' (by omega) (by omega)
      first
        | exact absurd y z
        | exact absurd y w
  · refine t_257 (d := 37) hT.2 (fun y => absurd ⟨in_tape ea t6, in_tape eo o6⟩ y) (fun t' o' t6' o6' ea' eo' y => ?_) (fun t' o' t6' o6' ea' eo' _ y => ?_) (fun _ _ _ _ _ _ _ _ _ => ⟨rfl, h⟩) (fun t' o' i j n t6' o6' ea' eo' _ _ hi hj hn ei ej en ok => ?_)
    · obtain rfl := n_inj32 ea ea' (by omega) (by omega)
      obtain rfl := n_inj32 eo eo' (by omega) (by omega)
      exact absurd y z
    · obtain rfl := n_inj32 ea ea' (by omega) (by omega)
      obtain rfl := n_inj32 eo eo' (by omega) (by omega)
      exact absurd w y
    · obtain rfl := n_inj32 ea ea' (by omega) (by omega)
      obtain rfl := n_inj32 eo eo' (by omega) (by omega)
      exfalso
      rcases v with v | v | v | ⟨i', j', n', hi', hj', hn', ei', ej', en', no⟩
      · rw [en] at v; exact n_neg hn v
      · rw [ei] at v; exact n_neg hi v
      · rw [ej] at v; exact n_neg hj v
      · obtain rfl : i = i' := (n_eq hi hi').mp (ei.symm.trans ei')
        obtain rfl : j = j' := (n_eq hj hj').mp (ej.symm.trans ej')
        obtain rfl : n = n' := (n_eq hn hn').mp (en.symm.trans en')
        exact no ok
  · refine t_257 (d := 37) hT.2 (fun y => absurd ⟨in_tape ea t6, in_tape eo o6⟩ y) (fun t' o' t6' o6' ea' eo' y => ?_) (fun t' o' t6' o6' ea' eo' _ y => ?_) (fun t' o' t6' o6' ea' eo' _ _ v => ?_) (fun t' o' i' j' n' t6' o6' ea' eo' _ _ hi' hj' hn' ei' ej' en' ok' lm' vl => ⟨rfl, ?_⟩)
    · obtain rfl := n_inj32 ea ea' (by omega) (by omega)
      obtain rfl := n_inj32 eo eo' (by omega) (by omega)
      exact absurd y z
    · obtain rfl := n_inj32 ea ea' (by omega) (by omega)
      obtain rfl := n_inj32 eo eo' (by omega) (by omega)
      exact absurd w y
    · obtain rfl := n_inj32 ea ea' (by omega) (by omega)
      obtain rfl := n_inj32 eo eo' (by omega) (by omega)
      exfalso
      rcases v with v | v | v | ⟨i', j', n', hi', hj', hn', ei', ej', en', no⟩
      · rw [en] at v; exact n_neg hn v
      · rw [ei] at v; exact n_neg hi v
      · rw [ej] at v; exact n_neg hj v
      · obtain rfl : i = i' := (n_eq hi hi').mp (ei.symm.trans ei')
        obtain rfl : j = j' := (n_eq hj hj').mp (ej.symm.trans ej')
        obtain rfl : n = n' := (n_eq hn hn').mp (en.symm.trans en')
        exact no ok
    · obtain rfl := n_inj32 ea ea' (by omega) (by omega)
      obtain rfl := n_inj32 eo eo' (by omega) (by omega)
      obtain rfl : i = i' := (n_eq hi hi').mp (ei.symm.trans ei')
      obtain rfl : j = j' := (n_eq hj hj').mp (ej.symm.trans ej')
      obtain rfl : n = n' := (n_eq hn hn').mp (en.symm.trans en')
      have st := (hT.2 t t6).2.2
      have so := (hT.2 o o6).2.2
      obtain ⟨ok1, ok2⟩ := ok
      refine rl_tp h (fun _ _ _ _ => rfl) (fun x k hx => ?_) (fun _ _ _ _ => rfl) ⟨fun u hu => ?_, hT.2⟩
      · unfold zcp
        rw [if_neg (by omega)]
      · obtain ⟨c1, c2, c3⟩ := hT.1 u hu
        refine ⟨c1, c2, fun k hk => ?_⟩
        unfold zcp
        rw [vl]
        by_cases q : u = o ∧ j ≤ k ∧ k < j + n
        · obtain ⟨rfl, q1, q2⟩ := q
          rw [if_pos ⟨rfl, q1, q2⟩, if_pos (by omega), (hT.1 t t6).2.2 _ (by omega)]
          congr 1
          omega
        · rw [if_neg (by omega), if_neg (by omega)]; exact c3 k hk
