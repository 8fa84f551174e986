/-! feed, parish. -/
theorem getD_app (L : List Nat) (n i : Nat) : (L ++ [n]).getD i 0 = if i = L.length then n else L.getD i 0 := by
  simp only [List.getD_eq_getElem?_getD]
  by_cases h : i = L.length
  · rw [if_pos h, h]; simp
  · rw [if_neg h]
    by_cases h2 : i < L.length
    · rw [List.getElem?_append_left h2]
    · rw [List.getElem?_eq_none (by rw [List.length_append, List.length_singleton]; omega), List.getElem?_eq_none (by omega)]
theorem byte_tab : ∀ n : Nat, n < 128 → (Int32.toInt8 ((Int32.toInt8 (Int32.ofNat n)).toInt32)).toInt32 = Int32.ofNat n := by decide +kernel
theorem n_127 {a : Int32} (h : ¬ a < 0) (h2 : a ≤ 127) : ∃ n : Nat, n < 128 ∧ a = Int32.ofNat n := by
  obtain ⟨n, hn, rfl⟩ := n_nat h
  have := (n_le (b := 127) hn (by decide)).mp h2
  exact ⟨n, by omega, rfl⟩
section FEED
variable {d : Nat} {X : zS} {fr nx : Nat} {P : zR0} {c m : zI} {lc lm : zJ} {L : List Nat}
theorem t_20 {K : Int32 → zI → zJ → Prop} {a : Int32} (hL : rL c L) (hb : ¬ (0 ≤ a ∧ a ≤ 127) → K (-2) c lc) (hf : (0 ≤ a ∧ a ≤ 127) → L.length = 100 → K (-4) c lc)
    (h : ∀ n, a = Int32.ofNat n → n < 128 → L.length < 100 → ∀ c', (∀ x k, ¬ (x = 25 ∧ k = 1) → x ≠ 26 → c' x k = c x k) → rL c' (L ++ [n]) → K (Int32.ofNat (L.length + 1)) c' lc) : TI (d + 2) 20 [.ref 0, .int a] (zCS ++ X) (zCR fr nx P) c lc K := by
  obtain ⟨l1, l2, l3⟩ := hL
  refine TI_of (B_20 _ ⟨fun x => hb (fun z => absurd x (Int32.not_lt.mpr z.1)), fun x => ⟨fun y => TI_of (B_21 _ ⟨fun z => ?_, fun z => ⟨fun _ => ?_, fun w => absurd rfl w⟩⟩), fun y => hb (fun z => y z.2)⟩⟩)
  · obtain ⟨n, hn, rfl⟩ := n_127 x y
    rw [l2] at z ⊢
    have z := (n_lt (b := 100) (by omega) (by decide)).mp z
    rw [n_cl (show L.length < 2147483648 by omega), byte_tab n hn, n_suc]
    refine ⟨n_zin z (by decide), fun w => absurd w one_ne, fun _ => ?_⟩
    refine h n rfl hn z _ (fun x k u v => by rw [zu_ne u, zu_nc v]) ⟨by rw [List.length_append, List.length_singleton]; omega, by rw [zu_eq, List.length_append]; rfl, fun i hi => ?_⟩
    rw [List.length_append, List.length_singleton] at hi
    rw [zu_nc (by decide), getD_app]
    by_cases q : i = L.length
    · rw [if_pos q, q, zu_eq]; exact ⟨rfl, hn⟩
    · rw [if_neg q, zu_nk q]; exact l3 i (by omega)
  · rw [l2] at z
    have : ¬ L.length < 100 := fun w => z ((n_lt (b := 100) (by omega) (by decide)).mpr w)
    exact hf ⟨Int32.not_lt.mp x, y⟩ (by omega)
theorem t_167 {K : Int32 → zI → zJ → Prop} {a : Int32} (hL : xL m L) (hb : ¬ (0 ≤ a ∧ a ≤ 127) → K (-2) m lm) (hf : (0 ≤ a ∧ a ≤ 127) → L.length = 100 → K (-4) m lm)
    (h : ∀ n, a = Int32.ofNat n → n < 128 → L.length < 100 → ∀ m', (∀ x k, ¬ (x = 0 ∧ k = 21) → x ≠ 12 → m' x k = m x k) → xL m' (L ++ [n]) → K (Int32.ofNat (L.length + 1)) m' lm) : TI (d + 2) 167 [.ref 0, .int a] zMS zMR m lm K := by
  obtain ⟨l1, l2, l3⟩ := hL
  refine TI_of (B_167 _ (t_157 (d := d) ?_))
  by_cases q : 0 ≤ a ∧ a ≤ 127
  · rw [if_pos q]
    refine ⟨fun _ => ⟨fun z => ?_, fun z => ?_⟩, fun z => absurd one_ne z⟩
    · obtain ⟨n, hn, rfl⟩ := n_127 (Int32.not_lt.mpr q.1) q.2
      rw [l2] at z ⊢
      have z : ¬ L.length = 100 := fun w => z (by rw [w]; rfl)
      rw [n_cl (show L.length < 2147483648 by omega), n_suc]
      refine ⟨n_zin (by omega) (by decide), ?_⟩
      refine h n rfl hn (by omega) _ (fun x k u v => by rw [zu_ne u, zu_nc v]) ⟨by rw [List.length_append, List.length_singleton]; omega, by rw [zu_eq, List.length_append]; rfl, fun i hi => ?_⟩
      rw [List.length_append, List.length_singleton] at hi
      rw [zu_nc (by decide), getD_app]
      by_cases w : i = L.length
      · rw [if_pos w, w, zu_eq]; exact ⟨rfl, hn⟩
      · rw [if_neg w, zu_nk w]; exact l3 i (by omega)
    · rw [l2] at z
      exact hf q ((n_eq (b := 100) (by omega) (by decide)).mp (Decidable.not_not.mp z))
  · rw [if_neg q]
    exact ⟨fun z => absurd rfl z, fun _ => hb q⟩
end FEED
theorem s_feed {a : Int32} : sI 20 167 [.int a] := by
  intro X fr nx P c lc m lm h
  have h' := h
  obtain ⟨hf, hm, ⟨hw, L, hL, hL2⟩, ac, tp, N, T, f, g, i, j⟩ := h'
  refine TG_I (t_20 (d := 38) hL2 (fun z => ?_) (fun z w => ?_) (fun n ea hn l100 c' C r' => ?_))
  · exact t_167 (d := 38) hL (fun _ => ⟨rfl, h⟩) (fun y => absurd y z) (fun n ea hn _ => absurd (by subst ea; exact ⟨(n_le (a := 0) (by decide) (by omega)).mpr (Nat.zero_le _), (n_le (b := 127) (by omega) (by decide)).mpr (by omega)⟩) z)
  · exact t_167 (d := 38) hL (fun y => absurd z y) (fun _ _ => ⟨rfl, h⟩) (fun _ _ _ y => by omega)
  · have z : 0 ≤ a ∧ a ≤ 127 := by subst ea; exact ⟨(n_le (a := 0) (by decide) (by omega)).mpr (Nat.zero_le _), (n_le (b := 127) (by omega) (by decide)).mpr (by omega)⟩
    refine t_167 (d := 38) hL (fun y => absurd z y) (fun _ y => by omega) (fun n' ea' hn' _ m' M x' => ⟨rfl, ?_⟩)
    obtain rfl : n = n' := (n_eq (by omega) (by omega)).mp (ea.symm.trans ea')
    have M0 : ∀ k, k ≠ 21 → m' 0 k = m 0 k := fun k hk => M 0 k (by omega) (by decide)
    have M1 : ∀ x k, x ≠ 0 → x ≠ 12 → m' x k = m x k := fun x k h1 h2 => M x k (by omega) h2
    have C1 : ∀ x k, x ≠ 25 → x ≠ 26 → c' x k = c x k := fun x k h1 h2 => C x k (by omega) h2
    refine ⟨hf, iMm_0 (C1 _ _ (by decide) (by decide)) (C1 _ _ (by decide) (by decide)) hm, ⟨?_, L ++ [n], x', r'⟩, rAct_eq (fun k => C1 _ _ (by decide) (by decide)) (M0 _ (by decide)) (fun k => M1 _ _ (by decide) (by decide)) ac, rTap_eq (fun k => C1 _ _ (by decide) (by decide)) (fun k => C1 _ _ (by decide) (by decide)) (fun _ _ _ _ => rfl) (fun k => M1 _ _ (by decide) (by decide)) (fun k => M1 _ _ (by decide) (by decide)) (fun _ => rfl) tp, N, T, ?_, ?_, rPl_eq (C1 _ _ (by decide) (by decide)) (fun x k hx => C1 _ _ (by omega) (by omega)) (M0 _ (by decide)) (fun x k x1 x2 => M1 _ _ (by omega) (by omega)) i, ?_⟩
    · obtain ⟨w1, w2, w3⟩ := hw
      exact ⟨fun k hk => by rw [M1 17 k (by decide) (by decide)]; exact w1 k hk, fun k hk => by rw [M1 18 k (by decide) (by decide)]; exact w2 k hk, fun k hk => by rw [M1 19 k (by decide) (by decide)]; exact w3 k hk⟩
    · obtain ⟨f1, f2, f3⟩ := f
      refine ⟨cFul_eq (fun k => C1 _ _ (by decide) (by decide)) (fun k _ => C1 _ _ (by decide) (by decide)) (fun k _ => C1 _ _ (by decide) (by decide)) (fun k hk => M0 _ (by omega)) (fun k _ => M1 _ _ (by decide) (by decide)) (fun k _ => M1 _ _ (by decide) (by decide)) f1, iNw_eq (fun k hk => M0 _ (by omega)) (fun k _ => M1 _ _ (by decide) (by decide)) (fun k _ => M1 _ _ (by decide) (by decide)) f2, ?_⟩
      unfold rHo
      rw [M0 13 (by decide)]
      exact f3
    · obtain ⟨g1, g2, g3, g4, g5⟩ := g
      refine ⟨by rw [C1 _ _ (by decide) (by decide)]; exact g1, by rw [M0 _ (by decide)]; exact g2, g3, fun p hp => ?_, cPa_at (fun x k x1 x2 => C1 x k (by omega) (by omega)) g5⟩
      obtain ⟨cs, w1, w2, w3⟩ := g4 p hp
      exact ⟨cs, w1, xTxt_eq (M1 _ _ (by decide) (by decide)) (fun x k x1 x2 _ _ => M1 _ _ (by omega) (by omega)) (fun k _ _ => M1 _ _ (by decide) (by decide)) w2, cPa_at (fun x k x1 x2 => C1 x k (by omega) (by omega)) w3⟩
    · refine rImg_eq (Nat.le_refl _) (C1 _ _ (by decide) (by decide)) (fun x k x1 x2 => C1 _ _ (by omega) (by omega)) (fun p k hp hk k3 => ?_) (fun k hk => M0 _ (by omega)) (fun k hk => M1 _ _ (by decide) (by decide)) (fun x k hx => M1 _ _ (by omega) (by omega)) (fun p => M1 _ _ (by decide) (by decide)) j
      have := ((i.2.2.1 p hp).1).2.1
      exact C1 _ _ (by omega) (by omega)
theorem rL_nil {c : zI} (h : c 25 1 = 0) : rL c [] := ⟨by decide, h, fun i hi => absurd hi (Nat.not_lt_zero _)⟩
theorem xL_nil {m : zI} (h : m 0 21 = 0) : xL m [] := ⟨by decide, h, fun i hi => absurd hi (Nat.not_lt_zero _)⟩
theorem s_parish : sI 22 168 [] := by
  intro X fr nx P c lc m lm h
  have h' := h
  obtain ⟨hf, hm, ⟨hw, L, hL, hL2⟩, ac, tp, N, T, f, g, i, j⟩ := h'
  obtain ⟨g1, g2, g3, g4, g5⟩ := g
  have T74 : ∀ p, p < mPl m → 74 ≤ T p := fun p hp => ((i.2.2.1 p hp).1).2.1
  refine TG_I (t_22 (d := 15) hL2 g3 g1 (fun z => ?_) (fun z o c' F c0 => ?_) (fun z o c' F c0 cp => ?_))
  · exact t_168 (d := 32) hw hL g3 g2 (fun _ => ⟨rfl, h⟩) (fun y => absurd z y) (fun y => absurd z y)
  · refine t_168 (d := 32) hw hL g3 g2 (fun y => absurd y z) (fun _ _ m1 G => ⟨rfl, ?_⟩) (fun _ o2 => absurd o2 (by rw [o]; exact Bool.false_ne_true))
    have C : ∀ x k, x < 25 ∨ (26 ≤ x ∧ x < 44 + 5 * N) ∨ 74 ≤ x → c' x k = c x k := fun x k hx => F x k (by omega) (by omega) (by omega) (by omega) (by omega) (by omega)
    have M0 : ∀ k, k ≠ 21 → (k < 30 ∨ 35 ≤ k) → zu m1 0 21 0 0 k = m 0 k := fun k k1 k2 => by rw [zu_nk k1]; exact G 0 k (by omega) (by decide) (by omega) (by omega) (by omega)
    have M1 : ∀ x k, (1 ≤ x ∧ x < 6) ∨ (12 ≤ x ∧ x < 20) ∨ 21 ≤ x → zu m1 0 21 0 x k = m x k := fun x k hx => by rw [zu_nc (by omega)]; exact G x k (by omega) (by omega) (by omega) (by omega) (by omega)
    refine ⟨hf, iMm_0 (C _ _ (by omega)) (C _ _ (by omega)) hm, ⟨?_, [], xL_nil zu_eq, rL_nil c0⟩, rAct_eq (fun k => C _ _ (by omega)) (M0 _ (by decide) (by decide)) (fun k => M1 _ _ (by decide)) ac, rTap_eq (fun k => C _ _ (by omega)) (fun k => C _ _ (by omega)) (fun _ _ _ _ => rfl) (fun k => M1 _ _ (by decide)) (fun k => M1 _ _ (by decide)) (fun _ => rfl) tp, N, T, ?_, ?_, rPl_eq (C _ _ (by omega)) (fun x k hx => C _ _ (by omega)) (M0 _ (by decide) (by decide)) (fun x k x1 x2 => M1 _ _ (by omega)) i, ?_⟩
    · obtain ⟨w1, w2, w3⟩ := hw
      exact ⟨fun k hk => by rw [M1 17 k (by decide)]; exact w1 k hk, fun k hk => by rw [M1 18 k (by decide)]; exact w2 k hk, fun k hk => by rw [M1 19 k (by decide)]; exact w3 k hk⟩
    · obtain ⟨f1, f2, f3⟩ := f
      refine ⟨cFul_eq (fun k => C _ _ (by omega)) (fun k _ => C _ _ (by omega)) (fun k _ => C _ _ (by omega)) (fun k hk => M0 _ (by omega) (by omega)) (fun k _ => M1 _ _ (by decide)) (fun k _ => M1 _ _ (by decide)) f1, iNw_eq (fun k hk => M0 _ (by omega) (by omega)) (fun k _ => M1 _ _ (by decide)) (fun k _ => M1 _ _ (by decide)) f2, ?_⟩
      unfold rHo
      rw [M0 13 (by decide) (by decide)]
      exact f3
    · refine ⟨by rw [C _ _ (by omega)]; exact g1, by rw [M0 _ (by decide) (by decide)]; exact g2, g3, fun p hp => ?_, cPa_at (fun x k x1 x2 => C x k (by omega)) g5⟩
      obtain ⟨cs, w1, w2, w3⟩ := g4 p hp
      refine ⟨cs, w1, xTxt_eq ?_ (fun x k x1 x2 k1 k2 => ?_) (fun k k1 k2 => ?_) w2, cPa_at (fun x k x1 x2 => C x k (by omega)) w3⟩
      · rw [zu_nc (by decide)]; exact G 6 p (by omega) (by decide) (by omega) (by omega) (by omega)
      · rw [zu_nc (by omega)]; exact G x k (by omega) (by omega) (by omega) (by omega) (by omega)
      · rw [zu_nc (by decide)]; exact G 11 k (by omega) (by decide) (by omega) (by omega) (by omega)
    · exact rImg_eq (Nat.le_refl _) (C _ _ (by omega)) (fun x k x1 x2 => C _ _ (by omega)) (fun p k hp hk k3 => C _ _ (by have := T74 p hp; omega)) (fun k hk => M0 _ (by omega) (by omega)) (fun k hk => M1 _ _ (by decide)) (fun x k hx => M1 _ _ (by omega)) (fun p => M1 _ _ (by decide)) j
  · refine t_168 (d := 32) hw hL g3 g2 (fun y => absurd y z) (fun _ o2 => absurd o (by rw [o2]; exact Bool.false_ne_true)) (fun _ _ m' H tx e12 e13 e21 => ⟨rfl, ?_⟩)
    have C : ∀ x k, ¬ (x = 1 ∧ k = 6) → ¬ (x = 0 ∧ k = 8) → x < 25 ∨ (26 ≤ x ∧ x < 44 + 5 * N) ∨ 44 + 5 * N + 5 ≤ x → zu (zu c' 1 6 (Int32.ofNat N)) 0 8 (Int32.ofNat (N + 1)) x k = c x k := fun x k h1 h2 hx => by rw [zu_ne h2, zu_ne h1]; exact F x k (by omega) (by omega) (by omega) (by omega) (by omega) (by omega)
    have M0 : ∀ k, k ≠ 21 → k ≠ 12 → k ≠ 13 → (k < 30 ∨ 35 ≤ k) → m' 0 k = m 0 k := fun k k1 k2 k3 k4 => H 0 k (by omega) (by decide) (by omega) (by omega) (by omega)
    have M1 : ∀ x k, (1 ≤ x ∧ x < 6) ∨ (12 ≤ x ∧ x < 20) ∨ 21 ≤ x → m' x k = m x k := fun x k hx => H x k (by omega) (by omega) (by omega) (by omega) (by omega)
    refine ⟨hf, iMm_0 (C _ _ (by omega) (by omega) (by omega)) (C _ _ (by omega) (by omega) (by omega)) hm, ⟨?_, [], xL_nil e21, rL_nil (by rw [zu_nc (by decide), zu_nc (by decide)]; exact c0)⟩, rAct_eq (fun k => C _ _ (by omega) (by omega) (by omega)) (M0 _ (by decide) (by decide) (by decide) (by decide)) (fun k => M1 _ _ (by decide)) ac, rTap_eq (fun k => C _ _ (by omega) (by omega) (by omega)) (fun k => C _ _ (by omega) (by omega) (by omega)) (fun _ _ _ _ => rfl) (fun k => M1 _ _ (by decide)) (fun k => M1 _ _ (by decide)) (fun _ => rfl) tp, N + 1, T, ?_, ?_, rPl_eq (C _ _ (by omega) (by omega) (by omega)) (fun x k hx => C _ _ (by omega) (by omega) (by omega)) (M0 _ (by decide) (by decide) (by decide) (by decide)) (fun x k x1 x2 => M1 _ _ (by omega)) i, ?_⟩
    · obtain ⟨w1, w2, w3⟩ := hw
      exact ⟨fun k hk => by rw [M1 17 k (by decide)]; exact w1 k hk, fun k hk => by rw [M1 18 k (by decide)]; exact w2 k hk, fun k hk => by rw [M1 19 k (by decide)]; exact w3 k hk⟩
    · obtain ⟨⟨s0, s6, s7, s8⟩, f2, f3⟩ := f
      refine ⟨⟨cSc_eq (fun k hk => C _ _ (by omega) (by omega) (by omega)) (fun k hk => C _ _ (by omega) (by omega) (by omega)) (cSc_m (fun k hk => M0 _ (by omega) (by omega) (by omega) (by omega)) (fun k _ => M1 _ _ (by decide)) s0), ?_, ?_, fun k hk => ?_⟩, iNw_eq (fun k hk => M0 _ (by omega) (by omega) (by omega) (by omega)) (fun k _ => M1 _ _ (by decide)) (fun k _ => M1 _ _ (by decide)) f2, .inr ⟨N, by omega, e13⟩⟩
      · rw [zu_nc (by decide), zu_eq, e13]
      · rw [C _ _ (by omega) (by omega) (by omega), M0 _ (by decide) (by decide) (by decide) (by decide)]; exact s7
      · rw [C _ _ (by omega) (by omega) (by omega), M1 _ _ (by decide)]; exact s8 k hk
    · refine ⟨zu_eq, e12, by omega, fun p hp => ?_, cPa_at (fun x k x1 x2 => C x k (by omega) (by omega) (by omega)) g5⟩
      by_cases q : p = N
      · subst q
        exact ⟨_, pText_ok 10 L, tx, cPa_at (fun x k x1 x2 => by rw [zu_nc (by omega), zu_nc (by omega)]) cp⟩
      · obtain ⟨cs, w1, w2, w3⟩ := g4 p (by omega)
        exact ⟨cs, w1, xTxt_eq (H 6 p (by omega) (by decide) (by omega) (by omega) (by omega)) (fun x k x1 x2 k1 k2 => H x k (by omega) (by omega) (by omega) (by omega) (by omega)) (fun k k1 k2 => H 11 k (by omega) (by decide) (by omega) (by omega) (by omega)) w2, cPa_at (fun x k x1 x2 => C x k (by omega) (by omega) (by omega)) w3⟩
    · exact rImg_eq (Nat.le_succ _) (C _ _ (by omega) (by omega) (by omega)) (fun x k x1 x2 => C _ _ (by omega) (by omega) (by omega)) (fun p k hp hk k3 => C _ _ (by have := T74 p hp; omega) (by have := T74 p hp; omega) (by have := T74 p hp; omega)) (fun k hk => M0 _ (by omega) (by omega) (by omega) (by omega)) (fun k hk => M1 _ _ (by decide)) (fun x k hx => M1 _ _ (by omega)) (fun p => M1 _ _ (by decide)) j
