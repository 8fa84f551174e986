/-! tape, item, shift. -/
theorem lg_gt (x y : Int64) : 0 < lg_cmp x y ↔ y.toInt < x.toInt := by
  unfold lg_cmp
  split
  · rename_i q
    have q : y < x := q
    rw [Int64.lt_iff_toInt_lt] at q
    exact ⟨fun _ => q, fun _ => by decide⟩
  · rename_i q
    have q : ¬ y < x := q
    rw [Int64.lt_iff_toInt_lt] at q
    split
    · exact ⟨fun z => absurd z (by decide), fun z => absurd z q⟩
    · exact ⟨fun z => absurd z (by decide), fun z => absurd z q⟩
/-- a tape laid anew -/
def tpOK (b e : Int32) : Prop := b = -1 ∨ (¬ b = -1 ∧ (-1 ≤ b ∧ b ≤ 4) ∧ (0 ≤ e ∧ e ≤ 60))
theorem n_m1to4 {b : Int32} (h : -1 ≤ b) (h4 : b ≤ 4) (hb : ¬ b = -1) : ∃ s : Nat, s < 5 ∧ b = Int32.ofNat s := by
  have h0 : ¬ b < 0 := fun z => hb (by
    rw [Int32.lt_iff_toInt_lt] at z
    rw [Int32.le_iff_toInt_le] at h
    have e0 : (0 : Int32).toInt = 0 := rfl
    have e1 : (-1 : Int32).toInt = -1 := rfl
    rw [← Int32.toInt_inj]
    omega)
  obtain ⟨n, hn, rfl⟩ := n_nat h0
  have := (n_le (b := 4) hn (by decide)).mp h4
  exact ⟨n, by omega, rfl⟩
theorem n_lt0 {b : Int32} (h : -1 ≤ b) : b < 0 ↔ b = -1 := by
  rw [Int32.lt_iff_toInt_lt, ← Int32.toInt_inj]
  rw [Int32.le_iff_toInt_le] at h
  have e0 : (0 : Int32).toInt = 0 := rfl
  have e1 : (-1 : Int32).toInt = -1 := rfl
  omega
section TAPES
variable {d : Nat} {X : zS} {fr nx : Nat} {P : zR0} {c m : zI} {lc lm : zJ}
theorem t_150_45 {Q : zQ} {t : Nat} {l0 : zJ} (ht : t < 6) (h : ∀ lc', (∀ x k, ¬ (x = 36 + t ∧ k < 60) → lc' x k = l0 x k) → (∀ k, k < 60 → lc' (36 + t) k = 0) → Q (some (.int 1)) c lc') : ∀ (j i : Nat) (lc : zJ), i + j = 60 → (∀ x k, ¬ (x = 36 + t ∧ k < 60) → lc x k = l0 x k) → (∀ k, k < i → lc (36 + t) k = 0) → Wf (d + 1) 150 45 [.ref 0, .int (Int32.ofNat t), .retAddr 0, .retAddr 0, .int (Int32.ofNat i)] [] (zCS ++ X) (zCR fr nx P) c lc Q
  | 0, i, lc, e, f, z => by
    obtain ⟨z1, z2, z3⟩ := tp_row (X := X) (fr := fr) (nx := nx) (P := P) ht
    obtain rfl : i = 60 := by omega
    refine B_150_45 _ _ ⟨n_zin ht (by decide), ?_⟩
    rw [n_cl (show t < 2147483648 by omega), z1]
    refine ⟨by omega, fun c1 e1 => ?_⟩
    obtain rfl : c1 = 36 + t := by omega
    rw [z2, z3]
    exact ⟨rfl, fun _ => h lc f z, fun y => absurd (Int32.le_refl _) y⟩
  | j + 1, i, lc, e, f, z => by
    obtain ⟨z1, z2, z3⟩ := tp_row (X := X) (fr := fr) (nx := nx) (P := P) ht
    refine B_150_45 _ _ ⟨n_zin ht (by decide), ?_⟩
    rw [n_cl (show t < 2147483648 by omega), z1]
    refine ⟨by omega, fun c1 e1 => ?_⟩
    obtain rfl : c1 = 36 + t := by omega
    rw [z2, z3]
    refine ⟨rfl, fun y => absurd ((n_le (by omega) (by omega)).mp y) (by omega), fun _ => ⟨n_zin ht (by decide), by omega, fun c2 e2 => ?_⟩⟩
    obtain rfl : c2 = 36 + t := by omega
    rw [z2, z3, n_suc, n_cl (show i < 2147483648 by omega)]
    refine ⟨rfl, n_zin (by omega) (by decide), t_150_45 ht h j (i + 1) _ (by omega) (fun x k w => by rw [zu_ne (by omega)]; exact f x k w) (fun k hk => ?_)⟩
    by_cases q : k = i
    · rw [q, zu_eq]
    · rw [zu_nk q]; exact z k (by omega)
theorem t_150 {K : Int32 → zI → zJ → Prop} {a b e : Int32} (h1 : ¬ (0 ≤ a ∧ a ≤ 5) → K (-1) c lc) (h2 : (0 ≤ a ∧ a ≤ 5) → ¬ (-1 ≤ b ∧ b ≤ 4) ∨ (¬ b = -1 ∧ ¬ e ≤ 60) → K (-2) c lc) (h3 : (0 ≤ a ∧ a ≤ 5) → (-1 ≤ b ∧ b ≤ 4) → ¬ b = -1 → e ≤ 60 → ¬ 0 ≤ e → K (-14) c lc)
    (h : ∀ t, t < 6 → a = Int32.ofNat t → (0 ≤ a ∧ a ≤ 5) → (-1 ≤ b ∧ b ≤ 4) → tpOK b e → ∀ lc', (∀ x k, ¬ (x = 36 + t ∧ k < 60) → lc' x k = lc x k) → (∀ k, k < 60 → lc' (36 + t) k = 0) → K 1 (zu (zu c 42 t b) 43 t (if b = -1 then 0 else e)) lc') : TI (d + 2) 150 [.ref 0, .int a, .int b, .int e] (zCS ++ X) (zCR fr nx P) c lc K := by
  refine TI_of (B_150 _ _ _ (t_124 (d := d) ?_))
  by_cases q : 0 ≤ a ∧ a ≤ 5
  · rw [if_pos q]
    obtain ⟨t, t6, ea, ec⟩ := n_tape q.1 q.2
    have hz := n_zin (k := t) (n := 6) t6 (by decide)
    subst ea
    refine ⟨fun _ => ⟨fun x => h2 q (.inl (fun z => absurd x (Int32.not_lt.mpr z.1))), fun x => ⟨fun y => h2 q (.inl (fun z => absurd y (Int32.not_lt.mpr z.2))), fun y => ?_⟩⟩, fun z => absurd one_ne z⟩
    have bb : -1 ≤ b ∧ b ≤ 4 := ⟨Int32.not_lt.mp x, Int32.not_lt.mp y⟩
    have go : tpOK b e → Wf (d + 2) 150 45 [.ref 0, .int (Int32.ofNat t), .retAddr 0, .retAddr 0, .int 0] [] (zCS ++ X) (zCR fr nx P) (zu (zu c 42 t b) 43 t (if b = -1 then 0 else e)) lc (qI K) := fun ok =>
      t_150_45 (d := d + 1) t6 (fun lc' f z => h t t6 rfl q bb ok lc' f z) 60 0 lc rfl (fun _ _ _ => rfl) (fun k hk => absurd hk (Nat.not_lt_zero _))
    rw [n_cl (show t < 2147483648 by omega)]
    refine ⟨fun w => ⟨fun _ => ⟨hz, fun v => absurd w v, fun _ => ⟨hz, ?_⟩⟩, fun v => absurd w v⟩, fun w => ⟨fun v => ⟨fun u => absurd u w, fun _ => ⟨fun u => ⟨hz, fun _ => ⟨hz, ?_⟩, fun s => absurd w s⟩, fun u => ?_⟩⟩, fun v => h2 q (.inr ⟨w, v⟩)⟩⟩
    · have := go (.inl w)
      rw [if_pos w] at this
      exact this
    · have := go (.inr ⟨w, bb, u, v⟩)
      rw [if_neg w] at this
      exact this
    · exact h3 q bb w v u
  · rw [if_neg q]
    exact ⟨fun z => absurd rfl z, fun _ => h1 q⟩
theorem t_253_42 {Q : zQ} {t : Nat} {l0 : zJ} (ht : t < 6) (h : ∀ lm', (∀ x k, ¬ (x = 16 ∧ 60 * t ≤ k ∧ k < 60 * t + 60) → lm' x k = l0 x k) → (∀ k, k < 60 → lm' 16 (60 * t + k) = 0) → Q (some (.int 1)) m lm') : ∀ (j i : Nat) (lm : zJ), i + j = 60 → (∀ x k, ¬ (x = 16 ∧ 60 * t ≤ k ∧ k < 60 * t + 60) → lm x k = l0 x k) → (∀ k, k < i → lm 16 (60 * t + k) = 0) → Wf (d + 1) 253 42 [.ref 0, .int (Int32.ofNat t), .retAddr 0, .retAddr 0, .int (Int32.ofNat i)] [] zMS zMR m lm Q
  | 0, i, lm, e, f, z => by
    obtain rfl : i = 60 := by omega
    exact B_253_42 _ _ ⟨fun _ => h lm f z, fun y => absurd (show (60 : Int32) ≤ Int32.ofNat 60 by decide) y⟩
  | j + 1, i, lm, e, f, z => by
    refine B_253_42 _ _ ⟨fun y => absurd ((n_le (a := 60) (by decide) (by omega)).mp y) (by omega), fun _ => ?_⟩
    rw [n_60, n_suc, n_cl (show 60 * t + i < 2147483648 by omega)]
    refine ⟨n_zin (by omega) (by decide), t_253_42 ht h j (i + 1) _ (by omega) (fun x k w => by rw [zu_ne (by omega)]; exact f x k w) (fun k hk => ?_)⟩
    by_cases q : k = i
    · rw [q, zu_eq]
    · rw [zu_nk (by omega)]; exact z k (by omega)
theorem t_253 {K : Int32 → zI → zJ → Prop} {a b e : Int32} (h1 : ¬ (0 ≤ a ∧ a ≤ 5) → K (-1) m lm) (h2 : (0 ≤ a ∧ a ≤ 5) → ¬ (-1 ≤ b ∧ b ≤ 4) ∨ (¬ b = -1 ∧ ¬ e ≤ 60) → K (-2) m lm) (h3 : (0 ≤ a ∧ a ≤ 5) → (-1 ≤ b ∧ b ≤ 4) → ¬ b = -1 → e ≤ 60 → ¬ 0 ≤ e → K (-14) m lm)
    (h : ∀ t, t < 6 → a = Int32.ofNat t → (0 ≤ a ∧ a ≤ 5) → (-1 ≤ b ∧ b ≤ 4) → tpOK b e → ∀ lm', (∀ x k, ¬ (x = 16 ∧ 60 * t ≤ k ∧ k < 60 * t + 60) → lm' x k = lm x k) → (∀ k, k < 60 → lm' 16 (60 * t + k) = 0) → K 1 (zu (zu m 14 t b) 15 t (if b = -1 then 0 else e)) lm') : TI (d + 3) 253 [.ref 0, .int a, .int b, .int e] zMS zMR m lm K := by
  refine TI_of (B_253 _ _ _ (t_241 (d := d) ?_))
  by_cases q : 0 ≤ a ∧ a ≤ 5
  · rw [if_pos q]
    obtain ⟨t, t6, ea, ec⟩ := n_tape q.1 q.2
    have hz := n_zin (k := t) (n := 6) t6 (by decide)
    subst ea
    refine ⟨fun _ => t_157 (d := d + 1) ?_, fun z => absurd one_ne z⟩
    by_cases bb : -1 ≤ b ∧ b ≤ 4
    · rw [if_pos bb]
      have n0 := n_lt0 bb.1
      have go : tpOK b e → Wf (d + 3) 253 42 [.ref 0, .int (Int32.ofNat t), .retAddr 0, .retAddr 0, .int 0] [] zMS zMR (zu (zu m 14 t b) 15 t (if b = -1 then 0 else e)) lm (qI K) := fun ok =>
        t_253_42 (d := d + 2) t6 (fun lm' f z => h t t6 rfl q bb ok lm' f z) 60 0 lm rfl (fun _ _ _ => rfl) (fun k hk => absurd hk (Nat.not_lt_zero _))
      rw [n_cl (show t < 2147483648 by omega)]
      refine ⟨fun z => absurd z one_ne, fun _ => ⟨fun w => ⟨fun _ => ⟨hz, fun v => absurd w (Int32.not_lt.mpr v), fun _ => ⟨hz, ?_⟩⟩, fun v => absurd w v⟩, fun w => ⟨fun v => ⟨fun u => absurd u w, fun _ => ⟨fun u => ⟨hz, fun _ => ⟨hz, ?_⟩, fun s => absurd (Int32.not_lt.mp w) s⟩, fun u => ?_⟩⟩, fun v => h2 q (.inr ⟨fun z => w (n0.mpr z), v⟩)⟩⟩⟩
      · have := go (.inl (n0.mp w))
        rw [if_pos (n0.mp w)] at this
        exact this
      · have w' : ¬ b = -1 := fun z => w (n0.mpr z)
        have := go (.inr ⟨w', bb, u, v⟩)
        rw [if_neg w'] at this
        exact this
      · exact h3 q bb (fun z => w (n0.mpr z)) v u
    · rw [if_neg bb]
      exact ⟨fun _ => h2 q (.inl bb), fun z => absurd rfl z⟩
  · rw [if_neg q]
    exact ⟨fun z => absurd rfl z, fun _ => h1 q⟩
end TAPES
/-- only tapes change -/
theorem rl_tp {X : zS} {fr nx : Nat} {P : zR0} {c c' m m' : zI} {lc lc' lm lm' : zJ} (h : Rl X fr nx P c lc m lm) (C : ∀ x k, x ≠ 42 → x ≠ 43 → c' x k = c x k) (L : ∀ x k, ¬ (36 ≤ x ∧ x < 42) → lc' x k = lc x k) (M : ∀ x k, x ≠ 14 → x ≠ 15 → m' x k = m x k) (t : rTap c' lc' m' lm') : Rl X fr nx P c' lc' m' lm' := by
  obtain ⟨hf, hm, a, b, e, N, T, f, g, i, j⟩ := h
  refine ⟨hf, ?_, rTxt_eq (C _ _ (by decide) (by decide)) (fun k => C _ _ (by decide) (by decide)) (M _ _ (by decide) (by decide)) (fun k => M _ _ (by decide) (by decide)) (fun x k x1 x2 => M _ _ (by omega) (by omega)) a, rAct_eq (fun k => C _ _ (by decide) (by decide)) (M _ _ (by decide) (by decide)) (fun k => M _ _ (by decide) (by decide)) b, t, N, T, ?_, ?_, rPl_eq (C _ _ (by decide) (by decide)) (fun x k hx => C _ _ (by omega) (by omega)) (M _ _ (by decide) (by decide)) (fun x k x1 x2 => M _ _ (by omega) (by omega)) i, ?_⟩
  · obtain ⟨lo, hi, e1, e2, e3, e4, e5⟩ := hm
    refine ⟨lo, hi, by rw [C _ _ (by decide) (by decide)]; exact e1, by rw [C _ _ (by decide) (by decide)]; exact e2, e3, e4, fun lo2 k q hk hq => ?_⟩
    have : nAt lc' k q = nAt lc k q := by unfold nAt; rw [L 18 _ (by decide)]
    rw [this]; exact e5 lo2 k q hk hq
  · obtain ⟨f1, f2, f3⟩ := f
    refine ⟨cFul_eq (fun k => C _ _ (by decide) (by decide)) (fun k _ => C _ _ (by decide) (by decide)) (fun k _ => C _ _ (by decide) (by decide)) (fun k hk => M _ _ (by decide) (by decide)) (fun k _ => M _ _ (by decide) (by decide)) (fun k _ => M _ _ (by decide) (by decide)) f1, iNw_eq (fun k hk => M _ _ (by decide) (by decide)) (fun k _ => M _ _ (by decide) (by decide)) (fun k _ => M _ _ (by decide) (by decide)) f2, ?_⟩
    unfold rHo
    rw [M 0 13 (by decide) (by decide)]
    exact f3
  · obtain ⟨g1, g2, g3, g4, g5⟩ := g
    refine ⟨by rw [C _ _ (by decide) (by decide)]; exact g1, by rw [M _ _ (by decide) (by decide)]; exact g2, g3, fun p hp => ?_, cPa_at (fun x k x1 x2 => C x k (by omega) (by omega)) g5⟩
    obtain ⟨cs, w1, w2, w3⟩ := g4 p hp
    exact ⟨cs, w1, xTxt_eq (M _ _ (by decide) (by decide)) (fun x k x1 x2 _ _ => M _ _ (by omega) (by omega)) (fun k _ _ => M _ _ (by decide) (by decide)) w2, cPa_at (fun x k x1 x2 => C x k (by omega) (by omega)) w3⟩
  · refine rImg_eq (Nat.le_refl _) (C _ _ (by decide) (by decide)) (fun x k x1 x2 => C _ _ (by omega) (by omega)) (fun p k hp hk k3 => ?_) (fun k hk => M _ _ (by decide) (by decide)) (fun k hk => M _ _ (by decide) (by decide)) (fun x k hx => M _ _ (by omega) (by omega)) (fun p => M _ _ (by decide) (by decide)) j
    have := ((i.2.2.1 p hp).1).2.1
    exact C _ _ (by omega) (by omega)
theorem s_tape {a b e : Int32} : sI 150 253 [.int a, .int b, .int e] := by
  intro X fr nx P c lc m lm h
  have hT := h.2.2.2.2.1
  refine TG_I (t_150 (d := 38) (fun z => ?_) (fun z w => ?_) (fun z w v u s => ?_) (fun t t6 ea z w ok lc' f1 f2 => ?_))
  · exact t_253 (d := 37) (fun _ => ⟨rfl, h⟩) (fun y => absurd y z) (fun y => absurd y z) (fun _ _ _ y => absurd y z)
  · refine t_253 (d := 37) (fun y => absurd z y) (fun _ _ => ⟨rfl, h⟩) (fun _ y1 y2 y3 _ => w.elim (fun q => absurd y1 q) (fun q => absurd y3 q.2)) (fun _ _ _ _ y1 y2 => w.elim (fun q => absurd y1 q) (fun q => y2.elim (fun r => absurd r q.1) (fun r => absurd r.2.2.2 q.2)))
  · exact t_253 (d := 37) (fun y => absurd z y) (fun _ y => y.elim (fun q => absurd w q) (fun q => absurd u q.2)) (fun _ _ _ _ _ => ⟨rfl, h⟩) (fun _ _ _ _ _ y => y.elim (fun r => absurd r v) (fun r => absurd r.2.2.1 s))
  · refine t_253 (d := 37) (fun y => absurd z y) (fun _ y => y.elim (fun q => absurd w q) (fun q => ok.elim (fun r => absurd r q.1) (fun r => absurd r.2.2.2 q.2))) (fun _ _ y1 y2 y3 => ok.elim (fun r => absurd r y1) (fun r => absurd r.2.2.1 y3)) (fun t' t6' ea' _ _ _ lm' g1 g2 => ⟨rfl, ?_⟩)
    obtain rfl := n_inj32 ea ea' (by omega) (by omega)
    have val : ∀ n : Int32, n = (if b = -1 then 0 else e) → ∃ sz : Nat, sz ≤ 60 ∧ n = Int32.ofNat sz ∧ (b = -1 → sz = 0) := fun n en => by
      by_cases q : b = -1
      · rw [if_pos q] at en
        exact ⟨0, by decide, en, fun _ => rfl⟩
      · rw [if_neg q] at en
        rcases ok with r | ⟨_, _, r1, r2⟩
        · exact absurd r q
        · obtain ⟨n', hn', rfl⟩ := n_nat (Int32.not_lt.mpr r1)
          exact ⟨n', (n_le (b := 60) hn' (by decide)).mp r2, en, fun z => absurd z q⟩
    obtain ⟨sz, sz60, esz, sz0⟩ := val _ rfl
    rw [esz]
    refine rl_tp h (fun x k h1 h2 => by rw [zu_nc h2, zu_nc h1]) (fun x k hx => f1 x k (by omega)) (fun x k h1 h2 => by rw [zu_nc h2, zu_nc h1]) ⟨fun u hu => ?_, fun u hu => ?_⟩
    · obtain ⟨c1, c2, c3⟩ := hT.1 u hu
      by_cases q : u = t
      · subst q
        refine ⟨by rw [zu_nc (by decide), zu_eq, zu_nc (by decide), zu_eq], by rw [zu_eq, zu_eq], fun k hk => by rw [f2 k hk, g2 k hk]⟩
      · refine ⟨by rw [zu_nc (by decide), zu_nk q, zu_nc (by decide), zu_nk q]; exact c1, by rw [zu_nk q, zu_nc (by decide), zu_nk q, zu_nc (by decide)]; exact c2, fun k hk => by rw [f1 _ k (by omega), g1 16 _ (by omega)]; exact c3 k hk⟩
    · have es : ∀ u, mSz (zu (zu m 14 t b) 15 t (Int32.ofNat sz)) u = if u = t then sz else mSz m u := fun u => by
        unfold mSz
        by_cases q : u = t
        · rw [if_pos q, q, zu_eq, n_cl (by omega)]
        · rw [if_neg q, zu_nk q, zu_nc (by decide)]
      obtain ⟨i1, i2, i3⟩ := hT.2 u hu
      rw [es]
      by_cases q : u = t
      · subst q
        rw [if_pos rfl, zu_nc (by decide), zu_eq, zu_eq]
        refine ⟨?_, rfl, sz60⟩
        by_cases r : b = -1
        · exact .inl ⟨r, sz0 r⟩
        · exact .inr (n_m1to4 w.1 w.2 r)
      · rw [if_neg q, zu_nc (by decide), zu_nk q, zu_nk q, zu_nc (by decide)]
        exact ⟨i1, i2, i3⟩
