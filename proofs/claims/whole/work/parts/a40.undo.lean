/-! image, undo. -/
section KEEP
variable {d : Nat} {X : zS} {fr nx : Nat} {P : zR0} {c m : zI} {lc lm : zJ} {T : Nat → Nat}
theorem t_128 {K : zI → zJ → Prop} {p : Nat} (h : rPl T X P c m) (hp : p < mPl m) (hk : mKd m p = 5) {c1 : zI} (hK : K (zcp c1 (T p + 2) (c1 (T p + 1)) 0 0 3) lc) : TV (d + 1) 128 [.ref (T p)] (zCS ++ X) (zCR fr nx P) c1 lc K := by
  obtain ⟨⟨e1, e2, e3, e4, e5, e6, e7, e8, e9⟩, k5⟩ := h.2.2.1 p hp
  obtain ⟨⟨r1, r2, r3, r4, r5, r6⟩, r7⟩ := k5 hk
  have z4 : zCR fr nx P (T p) 4 = T p + 2 := by rw [zCR_P e2]; exact r1
  have z5 : zCR fr nx P (T p) 5 = T p + 3 := by rw [zCR_P e2]; exact r2
  refine TV_of (B_128 (T p) ⟨pl_g5 h hp hk (by decide), by omega, fun x1 q1 => ?_⟩)
  obtain rfl : x1 = T p + 1 := by omega
  refine ⟨pl_g5 h hp hk (by decide), by omega, fun x2 q2 => ?_⟩
  obtain rfl : x2 = T p + 2 := by omega
  rw [r3, r4, r5, r6]
  exact ⟨rfl, by decide, hK⟩
theorem t_131 {K : zI → zJ → Prop} {p : Nat} (h : rPl T X P c m) (hp : p < mPl m) (hk : mKd m p = 5) {c1 : zI} (hK : K (zcp c1 (T p + 1) (c1 (T p + 2)) 0 0 3) lc) : TV (d + 1) 131 [.ref (T p)] (zCS ++ X) (zCR fr nx P) c1 lc K := by
  obtain ⟨⟨e1, e2, e3, e4, e5, e6, e7, e8, e9⟩, k5⟩ := h.2.2.1 p hp
  obtain ⟨⟨r1, r2, r3, r4, r5, r6⟩, r7⟩ := k5 hk
  have z4 : zCR fr nx P (T p) 4 = T p + 2 := by rw [zCR_P e2]; exact r1
  have z5 : zCR fr nx P (T p) 5 = T p + 3 := by rw [zCR_P e2]; exact r2
  refine TV_of (B_131 (T p) ⟨pl_g5 h hp hk (by decide), by omega, fun x1 q1 => ?_⟩)
  obtain rfl : x1 = T p + 2 := by omega
  refine ⟨pl_g5 h hp hk (by decide), by omega, fun x2 q2 => ?_⟩
  obtain rfl : x2 = T p + 1 := by omega
  rw [r3, r4, r5, r6]
  exact ⟨rfl, by decide, hK⟩
theorem kd_kp : ∀ kd : Nat, kd < 7 → ¬ kd = 5 → (zV 121).2.2.lookup (zKd kd) = some 129 ∧ (zV 123).2.2.lookup (zKd kd) = some 132 := by decide
/-- rows copied: from b behind the plan to a behind it, of the plans before n -/
def cpy (T : Nat → Nat) (m : zI) (a b n : Nat) (c0 c : zI) : Prop := (∀ x k, (∀ q, q < mPl m → mKd m q = 5 → x ≠ T q + a) → c x k = c0 x k) ∧ ∀ q, q < mPl m → mKd m q = 5 → ∀ k, k < 3 → c (T q + a) k = if q < n then c0 (T q + b) k else c0 (T q + a) k
theorem cpy_step {a b n : Nat} {c0 c1 : zI} (h : rPl T X P c m) (hn : n < mPl m) (hk : mKd m n = 5) (hab : (a = 1 ∧ b = 2) ∨ (a = 2 ∧ b = 1)) (q : cpy T m a b n c0 c1) : cpy T m a b (n + 1) c0 (zcp c1 (T n + a) (c1 (T n + b)) 0 0 3) := by
  obtain ⟨q1, q2⟩ := q
  refine ⟨fun x k hx => by rw [zcp_out (hx n hn hk)]; exact q1 x k hx, fun r hr hkr k k3 => ?_⟩
  by_cases e : r = n
  · subst e
    rw [zcp_in k3, if_pos (by omega)]
    refine q1 _ _ (fun s hs hks z => ?_)
    by_cases w : s = r
    · subst w; omega
    · have := pl_apart h hs hr hks (fun z => w z.symm)
      have := this.2.2 hk
      rcases hab with ⟨rfl, rfl⟩ | ⟨rfl, rfl⟩ <;> omega
  · have ap := (pl_apart h hn hr hk e).2.2 hkr
    rw [zcp_out (by rcases hab with ⟨rfl, rfl⟩ | ⟨rfl, rfl⟩ <;> omega), q2 r hr hkr k k3]
    by_cases w : r < n
    · rw [if_pos w, if_pos (by omega)]
    · rw [if_neg w, if_neg (by omega)]
theorem cpy_skip {a b n : Nat} {c0 c1 : zI} (hk : ¬ mKd m n = 5) (q : cpy T m a b n c0 c1) : cpy T m a b (n + 1) c0 c1 := by
  obtain ⟨q1, q2⟩ := q
  refine ⟨q1, fun r hr hkr k k3 => ?_⟩
  rw [q2 r hr hkr k k3]
  have : ¬ r = n := fun z => hk (by rw [← z]; exact hkr)
  by_cases w : r < n
  · rw [if_pos w, if_pos (by omega)]
  · rw [if_neg w, if_neg (by omega)]
theorem t_126_10 {Q : zQ} {c0 : zI} (h : rPl T X P c m) (h10 : c0 0 10 = m 0 6) (hQ : ∀ c', cpy T m 2 1 (mPl m) c0 c' → Q (some (.int (c' 1 0))) c' lc) : ∀ (j n : Nat) (c1 : zI), n + j = mPl m → cpy T m 2 1 n c0 c1 → Wf (d + 2) 126 10 [.ref 0, .int (Int32.ofNat n)] [] (zCS ++ X) (zCR fr nx P) c1 lc Q
  | 0, n, c1, e, q => by
    obtain rfl : n = mPl m := by omega
    have e10 : c1 0 10 = Int32.ofNat (mPl m) := by rw [q.1 0 10 (fun r hr _ => by have := ((h.2.2.1 r hr).1).2.1; omega), h10, h.1.1.1]
    refine B_126_10 _ ⟨fun _ => hQ c1 q, fun x => absurd (by rw [e10]; exact Int32.le_refl _) x⟩
  | j + 1, n, c1, e, q => by
    have b10 := h.1.1.2
    have hn : n < mPl m := by omega
    have e10 : c1 0 10 = Int32.ofNat (mPl m) := by rw [q.1 0 10 (fun r hr _ => by have := ((h.2.2.1 r hr).1).2.1; omega), h10, h.1.1.1]
    have eR : zCR fr nx P 33 n = T n + 1 := ((h.2.2.1 n hn).1).1
    obtain ⟨hz, h13, h7⟩ := pl_kz h hn
    refine B_126_10 _ ⟨fun x => ?_, fun _ => ⟨fun x => absurd ((n_le (a := 10) (by decide) (by omega)).mp x) (by omega), fun _ => ⟨n_zin (by omega) (by decide), ?_⟩⟩⟩
    · rw [e10] at x
      exact absurd ((n_le (by omega) (by omega)).mp x) (by omega)
    · rw [n_cl (show n < 2147483648 by omega), eR]
      refine ⟨fun x => absurd x (by omega), fun x1 _ => ⟨n_zin (by omega) (by decide), fun x => absurd x (by omega), fun x2 q2 => ?_⟩⟩
      obtain rfl : x2 = T n := by omega
      rw [n_suc]
      by_cases k5 : mKd m n = 5
      · refine ⟨128, tg_vi (k := 10) (by rw [hz, k5]; rfl) (by decide) rfl rfl, show 1 ≤ _ by decide, ?_⟩
        exact t_128 (d := d) h hn k5 (t_126_10 h h10 hQ j (n + 1) _ (by omega) (cpy_step h hn k5 (.inr ⟨rfl, rfl⟩) q))
      · refine ⟨129, tg_vi hz h13 rfl (kd_kp _ h7 k5).1, show 1 ≤ _ by decide, ?_⟩
        exact TV_of (B_129 (T n) (t_126_10 h h10 hQ j (n + 1) _ (by omega) (cpy_skip k5 q)))
theorem t_130_12 {Q : zQ} {c0 : zI} (h : rPl T X P c m) (h10 : c0 0 10 = m 0 6) (hQ : ∀ c', cpy T m 1 2 (mPl m) c0 c' → Q (some (.int (c' 1 0))) c' lc) : ∀ (j n : Nat) (c1 : zI), n + j = mPl m → cpy T m 1 2 n c0 c1 → Wf (d + 2) 130 12 [.ref 0, .int (Int32.ofNat n)] [] (zCS ++ X) (zCR fr nx P) c1 lc Q
  | 0, n, c1, e, q => by
    obtain rfl : n = mPl m := by omega
    have e10 : c1 0 10 = Int32.ofNat (mPl m) := by rw [q.1 0 10 (fun r hr _ => by have := ((h.2.2.1 r hr).1).2.1; omega), h10, h.1.1.1]
    refine B_130_12 _ ⟨fun _ => hQ c1 q, fun x => absurd (by rw [e10]; exact Int32.le_refl _) x⟩
  | j + 1, n, c1, e, q => by
    have b10 := h.1.1.2
    have hn : n < mPl m := by omega
    have e10 : c1 0 10 = Int32.ofNat (mPl m) := by rw [q.1 0 10 (fun r hr _ => by have := ((h.2.2.1 r hr).1).2.1; omega), h10, h.1.1.1]
    have eR : zCR fr nx P 33 n = T n + 1 := ((h.2.2.1 n hn).1).1
    obtain ⟨hz, h13, h7⟩ := pl_kz h hn
    refine B_130_12 _ ⟨fun x => ?_, fun _ => ⟨fun x => absurd ((n_le (a := 10) (by decide) (by omega)).mp x) (by omega), fun _ => ⟨n_zin (by omega) (by decide), ?_⟩⟩⟩
    · rw [e10] at x
      exact absurd ((n_le (by omega) (by omega)).mp x) (by omega)
    · rw [n_cl (show n < 2147483648 by omega), eR]
      refine ⟨fun x => absurd x (by omega), fun x1 _ => ⟨n_zin (by omega) (by decide), fun x => absurd x (by omega), fun x2 q2 => ?_⟩⟩
      obtain rfl : x2 = T n := by omega
      rw [n_suc]
      by_cases k5 : mKd m n = 5
      · refine ⟨131, tg_vi (k := 10) (by rw [hz, k5]; rfl) (by decide) rfl rfl, show 1 ≤ _ by decide, ?_⟩
        exact t_131 (d := d) h hn k5 (t_130_12 h h10 hQ j (n + 1) _ (by omega) (cpy_step h hn k5 (.inl ⟨rfl, rfl⟩) q))
      · refine ⟨132, tg_vi hz h13 rfl (kd_kp _ h7 k5).2, show 1 ≤ _ by decide, ?_⟩
        exact TV_of (B_132 (T n) (t_130_12 h h10 hQ j (n + 1) _ (by omega) (cpy_skip k5 q)))
/-- image -/
theorem t_126 {K : Int32 → zI → zJ → Prop} (h : rPl T X P c m) (hF : cFul 1 c m) (hK : ∀ c' c0, cFul 4 c0 m → (∀ x k, ¬ (4 ≤ x ∧ x ≤ 6) → ¬ (x = 0 ∧ k = 2) → c0 x k = c x k) → c0 0 2 = 1 → cpy T m 2 1 (mPl m) c0 c' → K (m 0 0) c' lc) : TI (d + 3) 126 [.ref 0] (zCS ++ X) (zCR fr nx P) c lc K := by
  refine TI_of (B_126 (t_127 (d := d) (.inr (.inl rfl)) (.inl rfl) (by decide) hF (fun c1 F1 A1 => ⟨.inr rfl, ?_⟩)))
  have f1 : ∀ x k, ¬ (4 ≤ x ∧ x ≤ 6) → c1 x k = c x k := fun x k hx => A1 x k (by simp only [List.mem_cons, List.not_mem_nil, or_false]; omega)
  refine t_126_10 (d := d + 1) (c0 := zu c1 0 2 1) h (by rw [zu_nk (by decide), f1 0 10 (by decide)]; exact h.2.1) (fun c' q => ?_) (mPl m) 0 _ (by omega) ⟨fun _ _ _ => rfl, fun r hr _ k _ => by rw [if_neg (Nat.not_lt_zero _)]⟩
  have e : c' 1 0 = m 0 0 := by
    rw [q.1 1 0 (fun r hr _ => by have := ((h.2.2.1 r hr).1).2.1; omega), zu_nc (by decide), f1 1 0 (by decide)]
    exact hF.1.1
  rw [e]
  exact hK c' _ (cFul_eq (fun k => zu_nc (by decide)) (fun k _ => zu_nc (by decide)) (fun k _ => zu_nc (by decide)) (fun _ _ => rfl) (fun _ _ => rfl) (fun _ _ => rfl) F1) (fun x k h1 h2 => by rw [zu_ne h2]; exact f1 x k h1) zu_eq q
theorem t_130 {K : Int32 → zI → zJ → Prop} {g : zI} (h : rPl T X P c m) (h0 : c 0 2 = 0 → K (-3) c lc) (hF : ¬ c 0 2 = 0 → cFul 4 c g) (hK : ¬ c 0 2 = 0 → ∀ c' c0, cFul 1 c0 g → (∀ x k, ¬ (1 ≤ x ∧ x ≤ 3) → c0 x k = c x k) → cpy T m 1 2 (mPl m) c0 c' → K (g 0 0) c' lc) : TI (d + 3) 130 [.ref 0] (zCS ++ X) (zCR fr nx P) c lc K := by
  refine TI_of (B_130 ⟨fun z => t_127 (d := d) (.inl rfl) (.inr (.inl rfl)) (by decide) (hF z) (fun c1 F1 A1 => ?_), fun z => h0 (Decidable.not_not.mp z)⟩)
  have f1 : ∀ x k, ¬ (1 ≤ x ∧ x ≤ 3) → c1 x k = c x k := fun x k hx => A1 x k (by simp only [List.mem_cons, List.not_mem_nil, or_false]; omega)
  refine t_130_12 (d := d + 1) (c0 := c1) h (by rw [f1 0 10 (by decide)]; exact h.2.1) (fun c' q => ?_) (mPl m) 0 _ (by omega) ⟨fun _ _ _ => rfl, fun r hr _ k _ => by rw [if_neg (Nat.not_lt_zero _)]⟩
  have e : c' 1 0 = g 0 0 := by
    rw [q.1 1 0 (fun r hr _ => by have := ((h.2.2.1 r hr).1).2.1; omega)]
    exact F1.1.1
  rw [e]
  exact hK z c' c1 F1 f1 q
end KEEP
section KEEPM
variable {d : Nat} {m : zI} {lm : zJ}
theorem t_242_43 {Q : zQ} {m0 : zI} (h : ∀ m', (∀ x k, ¬ (x = 32 ∧ k < 12) → m' x k = m0 x k) → (∀ k, k < 12 → m' 32 k = m0 5 k) → Q (some (.int (m0 0 0))) m' lm) : ∀ (j k : Nat) (m : zI), k + j = 12 → (∀ x q, ¬ (x = 32 ∧ q < 12) → m x q = m0 x q) → (∀ q, q < k → m 32 q = m0 5 q) → Wf (d + 1) 242 43 [.ref 0, .int (Int32.ofNat k)] [] zMS zMR m lm Q
  | 0, k, m, e, f, v => by
    obtain rfl : k = 12 := by omega
    refine B_242_43 _ ⟨fun _ => ?_, fun x => absurd (show (12 : Int32) ≤ Int32.ofNat 12 by decide) x⟩
    rw [f 0 0 (by decide)]; exact h m f v
  | j + 1, k, m, e, f, v => by
    refine B_242_43 _ ⟨fun x => absurd ((n_le (a := 12) (by decide) (by omega)).mp x) (by omega), fun _ => ⟨n_zin (by omega) (by decide), n_zin (by omega) (by decide), ?_⟩⟩
    rw [n_suc, n_cl (show k < 2147483648 by omega)]
    refine t_242_43 h j (k + 1) _ (by omega) (fun x q hx => by rw [zu_ne (by omega)]; exact f x q hx) (fun q hq => ?_)
    by_cases w : q = k
    · rw [w, zu_eq, f 5 k (by omega)]
    · rw [zu_nk w]; exact v q (by omega)
theorem t_242_28 {Q : zQ} {m0 : zI} (h : ∀ m', (∀ x k, ¬ (x = 31 ∧ k < 30) → m' x k = m0 x k) → (∀ k, k < 30 → m' 31 k = m0 4 k) → Wf (d + 1) 242 43 [.ref 0, .int 0] [] zMS zMR m' lm Q) : ∀ (j k : Nat) (m : zI), k + j = 30 → (∀ x q, ¬ (x = 31 ∧ q < 30) → m x q = m0 x q) → (∀ q, q < k → m 31 q = m0 4 q) → Wf (d + 1) 242 28 [.ref 0, .int (Int32.ofNat k)] [] zMS zMR m lm Q
  | 0, k, m, e, f, v => by
    obtain rfl : k = 30 := by omega
    exact B_242_28 _ ⟨fun _ => h m f v, fun x => absurd (show (30 : Int32) ≤ Int32.ofNat 30 by decide) x⟩
  | j + 1, k, m, e, f, v => by
    refine B_242_28 _ ⟨fun x => absurd ((n_le (a := 30) (by decide) (by omega)).mp x) (by omega), fun _ => ⟨n_zin (by omega) (by decide), n_zin (by omega) (by decide), ?_⟩⟩
    rw [n_suc, n_cl (show k < 2147483648 by omega)]
    refine t_242_28 h j (k + 1) _ (by omega) (fun x q hx => by rw [zu_ne (by omega)]; exact f x q hx) (fun q hq => ?_)
    by_cases w : q = k
    · rw [w, zu_eq, f 4 k (by omega)]
    · rw [zu_nk w]; exact v q (by omega)
theorem t_242 {K : Int32 → zI → zJ → Prop} (h : ∀ m', (∀ x k, ¬ (x = 0 ∧ 50 ≤ k ∧ k ≤ 55) → ¬ (x = 27 ∧ 42 ≤ k) → x ≠ 31 → x ≠ 32 → m' x k = m x k) → m' 0 50 = 1 → mIm m m' → K (m 0 0) m' lm) : TI (d + 2) 242 [.ref 0] zMS zMR m lm K := by
  refine TI_of (B_242 ⟨.inr rfl, t_219 (d := d) (s := 3) (by decide) (fun m1 f1 s1 => ?_)⟩)
  refine t_242_28 (d := d + 1) (m0 := m1) (fun m2 f2 v2 => ?_) 30 0 m1 rfl (fun _ _ _ => rfl) (fun q hq => absurd hq (Nat.not_lt_zero _))
  refine t_242_43 (d := d + 1) (m0 := m2) (fun m3 f3 v3 => ?_) 12 0 m2 rfl (fun _ _ _ => rfl) (fun q hq => absurd hq (Nat.not_lt_zero _))
  have e0 : ∀ x k, ¬ (x = 0 ∧ 50 ≤ k ∧ k ≤ 55) → ¬ (x = 27 ∧ 42 ≤ k) → x ≠ 31 → x ≠ 32 → m3 x k = m x k := fun x k h1 h2 h3 h4 => by
    rw [f3 x k (by omega), f2 x k (by omega), f1 x k (by omega), zu_ne (by omega), zu_ne (by omega), zu_ne (by omega), zu_ne (by omega), zu_ne (by omega), zu_ne (by omega)]
  have em : m2 0 0 = m 0 0 := by rw [f2 0 0 (by decide), f1 0 0 (by decide), zu_nk (by decide), zu_nk (by decide), zu_nk (by decide), zu_nk (by decide), zu_nk (by decide), zu_nk (by decide)]
  have st : ∀ k, m3 0 k = zu (zu (zu (zu (zu (zu m 0 50 1) 0 51 (m 0 0)) 0 52 (m 0 2)) 0 53 (m 0 6)) 0 54 (m 0 10)) 0 55 (m 0 13) 0 k := fun k => by rw [f3 0 k (by omega), f2 0 k (by omega), f1 0 k (by omega)]
  rw [em]
  refine h m3 e0 ?_ ⟨?_, ?_, ?_, ?_, ?_, ?_, fun k hk => ?_, fun k hk => ?_⟩
  · rw [st, zu_nk (by decide), zu_nk (by decide), zu_nk (by decide), zu_nk (by decide), zu_nk (by decide), zu_eq]
  · rw [st, zu_nk (by decide), zu_nk (by decide), zu_nk (by decide), zu_nk (by decide), zu_eq]
  · rw [st, zu_nk (by decide), zu_nk (by decide), zu_nk (by decide), zu_eq]
  · rw [st, zu_nk (by decide), zu_nk (by decide), zu_eq]
  · rw [st, zu_nk (by decide), zu_eq]
  · rw [st, zu_eq]
  · obtain ⟨a1, a2, a3, a4⟩ := s1
    have g27 : ∀ k, m3 27 k = m1 27 k := fun k => by rw [f3 27 k (by omega), f2 27 k (by omega)]
    refine ⟨?_, ?_, ?_, fun k hk => ?_⟩
    · rw [g27, a1]; rfl
    · rw [g27, a2]; rfl
    · rw [g27, a3]; rfl
    · rw [g27, a4 k hk]; rfl
  · rw [f3 31 k (by omega), v2 k hk, f1 4 k (by omega)]; rfl
  · rw [v3 k hk, f2 5 k (by omega), f1 5 k (by omega)]; rfl
theorem t_243_49 {Q : zQ} {m0 : zI} (h : ∀ m', (∀ x k, ¬ (x = 5 ∧ k < 12) → m' x k = m0 x k) → (∀ k, k < 12 → m' 5 k = m0 32 k) → Q (some (.int (m0 0 0))) m' lm) : ∀ (j k : Nat) (m : zI), k + j = 12 → (∀ x q, ¬ (x = 5 ∧ q < 12) → m x q = m0 x q) → (∀ q, q < k → m 5 q = m0 32 q) → Wf (d + 1) 243 49 [.ref 0, .int (Int32.ofNat k)] [] zMS zMR m lm Q
  | 0, k, m, e, f, v => by
    obtain rfl : k = 12 := by omega
    refine B_243_49 _ ⟨fun _ => ?_, fun x => absurd (show (12 : Int32) ≤ Int32.ofNat 12 by decide) x⟩
    rw [f 0 0 (by decide)]; exact h m f v
  | j + 1, k, m, e, f, v => by
    refine B_243_49 _ ⟨fun x => absurd ((n_le (a := 12) (by decide) (by omega)).mp x) (by omega), fun _ => ⟨n_zin (by omega) (by decide), n_zin (by omega) (by decide), ?_⟩⟩
    rw [n_suc, n_cl (show k < 2147483648 by omega)]
    refine t_243_49 h j (k + 1) _ (by omega) (fun x q hx => by rw [zu_ne (by omega)]; exact f x q hx) (fun q hq => ?_)
    by_cases w : q = k
    · rw [w, zu_eq, f 32 k (by omega)]
    · rw [zu_nk w]; exact v q (by omega)
theorem t_243_26 {Q : zQ} {m0 : zI} {G : Nat} (hG : G ≤ 10) (e53 : m0 0 53 = Int32.ofNat G) (h : ∀ m', (∀ x k, ¬ (x = 4 ∧ k < 30) → m' x k = m0 x k) → (∀ k, k < 30 → m' 4 k = if k < 3 * G then m0 31 k else 0) → Wf (d + 1) 243 49 [.ref 0, .int 0] [] zMS zMR m' lm Q) : ∀ (j k : Nat) (m : zI), k + j = 30 → (∀ x q, ¬ (x = 4 ∧ q < 30) → m x q = m0 x q) → (∀ q, q < k → m 4 q = if q < 3 * G then m0 31 q else 0) → Wf (d + 1) 243 26 [.ref 0, .int (Int32.ofNat k)] [] zMS zMR m lm Q
  | 0, k, m, e, f, v => by
    obtain rfl : k = 30 := by omega
    exact B_243_26 _ ⟨fun _ => h m f v, fun x => absurd (show (30 : Int32) ≤ Int32.ofNat 30 by decide) x⟩
  | j + 1, k, m, e, f, v => by
    have e3 : (3 : Int32) * m 0 53 = Int32.ofNat (3 * G) := by
      rw [f 0 53 (by omega), e53]
      show Int32.ofNat 3 * Int32.ofNat G = _
      rw [← Int32.ofNat_mul]
    have fin : ∀ w : Int32, w = (if k < 3 * G then m0 31 k else 0) → Wf (d + 1) 243 26 [.ref 0, .int (Int32.ofNat (k + 1))] [] zMS zMR (zu m 4 k w) lm Q := fun w hw =>
      t_243_26 hG e53 h j (k + 1) _ (by omega) (fun x q hx => by rw [zu_ne (by omega)]; exact f x q hx) (fun q hq => by
        by_cases z : q = k
        · rw [z, zu_eq, hw]
        · rw [zu_nk z]; exact v q (by omega))
    refine B_243_26 _ ⟨fun x => absurd ((n_le (a := 30) (by decide) (by omega)).mp x) (by omega), fun _ => ?_⟩
    rw [e3, n_suc, n_cl (show k < 2147483648 by omega)]
    refine ⟨fun x => ⟨n_zin (by omega) (by decide), fin 0 ?_⟩, fun x => ⟨n_zin (by omega) (by decide), n_zin (by omega) (by decide), fin _ ?_⟩⟩
    · have := (n_le (by omega) (by omega)).mp x
      rw [if_neg (by omega)]
    · have : k < 3 * G := Nat.lt_of_not_le (fun z => x ((n_le (by omega) (by omega)).mpr z))
      rw [if_pos this, f 31 k (by omega)]
theorem t_243 {K : Int32 → zI → zJ → Prop} {g : zI} (h0 : m 0 50 = 0 → K (-3) m lm) (hI : ¬ m 0 50 = 0 → mIm g m ∧ g 0 6 = Int32.ofNat (mPl g) ∧ mPl g ≤ 10)
    (h : ¬ m 0 50 = 0 → ∀ m', (∀ x k, ¬ (x = 0 ∧ (k ≤ 4 ∨ k = 10 ∨ k = 13)) → x ≠ 1 → x ≠ 4 → x ≠ 5 → m' x k = m x k) → (∀ k, k < 5 ∨ k = 10 ∨ k = 13 → m' 0 k = g 0 k) → (∀ k, k < 10 → m' 1 k = g 1 k) → (∀ k, k < 12 → m' 5 k = g 5 k) → (∀ k, k < 30 → m' 4 k = if k < 3 * mPl g then g 4 k else 0) → K (g 0 0) m' lm) : TI (d + 2) 243 [.ref 0] zMS zMR m lm K := by
  refine TI_of (B_243 ⟨fun z => t_221 (d := d) (s := 3) (by decide) (fun m1 f1 s1 => ?_), fun z => h0 (Decidable.not_not.mp z)⟩)
  obtain ⟨⟨b1, b2, b3, b4, b5, b6, b7, b8⟩, b9, b10⟩ := hI z
  have a0 : ∀ k, ¬ (k = 1 ∨ k = 3 ∨ k = 4) → m1 0 k = zu (zu (zu (zu m 0 0 (m 0 51)) 0 2 (m 0 52)) 0 10 (m 0 54)) 0 13 (m 0 55) 0 k := fun k hk => f1 0 k (by omega) (by omega)
  have a53 : m1 0 53 = Int32.ofNat (mPl g) := by rw [a0 53 (by decide), zu_nk (by decide), zu_nk (by decide), zu_nk (by decide), zu_nk (by decide), b3, b9]
  refine t_243_26 (d := d + 1) (m0 := m1) b10 a53 (fun m2 f2 v2 => ?_) 30 0 m1 rfl (fun _ _ _ => rfl) (fun q hq => absurd hq (Nat.not_lt_zero _))
  refine t_243_49 (d := d + 1) (m0 := m2) (fun m3 f3 v3 => ?_) 12 0 m2 rfl (fun _ _ _ => rfl) (fun q hq => absurd hq (Nat.not_lt_zero _))
  have c0 : ∀ x k, x ≠ 4 → x ≠ 5 → m3 x k = m1 x k := fun x k h1 h2 => by rw [f3 x k (by omega), f2 x k (by omega)]
  obtain ⟨s11, s12, s13, s14⟩ := s1
  obtain ⟨t1, t2, t3, t4⟩ := b6
  have m27 : ∀ k, zu (zu (zu (zu m 0 0 (m 0 51)) 0 2 (m 0 52)) 0 10 (m 0 54)) 0 13 (m 0 55) 27 k = m 27 k := fun k => by rw [zu_nc (by decide), zu_nc (by decide), zu_nc (by decide), zu_nc (by decide)]
  have e0 : ∀ k, k < 5 ∨ k = 10 ∨ k = 13 → m3 0 k = g 0 k := fun k hk => by
    rw [c0 0 k (by decide) (by decide)]
    have : k = 0 ∨ k = 1 ∨ k = 2 ∨ k = 3 ∨ k = 4 ∨ k = 10 ∨ k = 13 := by omega
    rcases this with rfl | rfl | rfl | rfl | rfl | rfl | rfl
    · rw [a0 0 (by decide), zu_nk (by decide), zu_nk (by decide), zu_nk (by decide), zu_eq, b1]
    · rw [← s11, m27, t1]
    · rw [a0 2 (by decide), zu_nk (by decide), zu_nk (by decide), zu_eq, b2]
    · rw [← s12, m27, t2]
    · rw [← s13, m27, t3]
    · rw [a0 10 (by decide), zu_nk (by decide), zu_eq, b4]
    · rw [a0 13 (by decide), zu_eq, b5]
  have em : m2 0 0 = g 0 0 := by rw [← f3 0 0 (by decide)]; exact e0 0 (by decide)
  rw [em]
  refine h z m3 (fun x k h1 h2 h3 h4 => ?_) e0 (fun k hk => ?_) (fun k hk => ?_) (fun k hk => ?_)
  · rw [c0 x k h3 h4, f1 x k (by omega) (by omega), zu_ne (by omega), zu_ne (by omega), zu_ne (by omega), zu_ne (by omega)]
  · rw [c0 1 k (by decide) (by decide), ← s14 k hk, m27, t4 k hk]
  · rw [v3 k hk, f2 32 k (by omega), f1 32 k (by omega) (by omega), zu_nc (by decide), zu_nc (by decide), zu_nc (by decide), zu_nc (by decide), b8 k hk]
  · rw [f3 4 k (by omega), v2 k hk]
    by_cases w : k < 3 * mPl g
    · rw [if_pos w, if_pos w, f1 31 k (by omega) (by omega), zu_nc (by decide), zu_nc (by decide), zu_nc (by decide), zu_nc (by decide), b7 k hk]
    · rw [if_neg w, if_neg w]
end KEEPM
