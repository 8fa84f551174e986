/-! plan. -/
section PLANC
variable {d : Nat} {X : zS} {fr nx : Nat} {P : zR0} {c m : zI} {lc lm : zJ} {T : Nat → Nat}
theorem r_aast6 {j i cc n v ci nf : Nat} {L st : List Value} {S : zS} {R : zR0} {mi : zI} {ml : zJ} {Q : Option Value → zS → zR0 → zI → zJ → Prop} {x : Int32} (hI : (zC j)[i]? = some .aastore) (hS : S[cc]? = some (106, n)) (hin : zin x n = true) (hv : S[v]? = some (ci, nf)) (hci : [0, 1, 2, 3, 5, 9, 10].contains ci = true) (k : Wz d j (i + 1) L st S (zu R cc x.toNatClampNeg (v + 1)) mi ml Q) : Wz d j i L (.ref v :: .int x :: .ref cc :: st) S R mi ml Q := by
  have ha : ((S[v]?).map (·.1)).any (fun k => [0, 1, 2, 3, 5, 9, 10].contains k) = true := by rw [hv]; exact hci
  refine r_st hI ?_ k
  simp only [zst, zast, hS]
  rw [if_pos ⟨rfl, hin⟩]
  simp only [ha, if_true]
theorem nPl_at {S S' : zS} {R R' : zR0} {mi mi' : zI} {ml ml' : zJ} {kd : Nat} {y z : Int32} (h : nPl S R mi ml kd y z S' R' mi' ml') : S'[S.length]? = some (zKd kd, if kd = 5 then 6 else 4) := by
  rw [h.1]
  by_cases q : kd = 5
  · subst q
    rw [if_pos rfl, if_pos rfl, List.getElem?_append_right (Nat.le_refl _), Nat.sub_self]; rfl
  · rw [if_neg q, if_neg q, List.getElem?_append_right (Nat.le_refl _), Nat.sub_self]; rfl
theorem kd_ci : ∀ kd : Nat, kd < 7 → [0, 1, 2, 3, 5, 9, 10].contains (zKd kd) = true := by decide
theorem n_lt10 {b : Int32} : 9 < b ↔ ¬ b ≤ 9 := Int32.not_le.symm
theorem t_53 {Q : Option Value → zS → zR0 → zI → zJ → Prop} {a b : Int32} {n : Nat} (hn : n ≤ 10) (h10 : c 0 10 = Int32.ofNat n) (h1 : ¬ (0 ≤ a ∧ a ≤ 6) → Q (some (.int (-1))) (zCS ++ X) (zCR fr nx P) c lc) (h2 : (0 ≤ a ∧ a ≤ 6) → ¬ (0 ≤ b ∧ b ≤ 9) → Q (some (.int (-2))) (zCS ++ X) (zCR fr nx P) c lc) (h3 : (0 ≤ a ∧ a ≤ 6) → (0 ≤ b ∧ b ≤ 9) → n = 10 → Q (some (.int (-4))) (zCS ++ X) (zCR fr nx P) c lc)
    (h4 : (0 ≤ a ∧ a ≤ 6) → (0 ≤ b ∧ b ≤ 9) → n < 10 → ∀ kd, a = Int32.ofNat kd → kd < 7 → ∀ S' R' mi' ml', nPl (zCS ++ X) (zCR fr nx P) c lc kd b (Int32.ofNat n) S' R' mi' ml' → Q (some (.int (Int32.ofNat n))) S' (zu R' 33 n ((zCS ++ X).length + 1)) (zu mi' 0 10 (Int32.ofNat (n + 1))) ml') : Tz (d + 4) 53 [.ref 0, .int a, .int b] (zCS ++ X) (zCR fr nx P) c lc Q := by
  show Wz (d + 4) 53 0 [.ref 0, .int a, .int b] [] (zCS ++ X) (zCR fr nx P) c lc Q
  have bad1 : ¬ (0 ≤ a ∧ a ≤ 6) → Wz (d + 4) 53 5 [.ref 0, .int a, .int b] [] (zCS ++ X) (zCR fr nx P) c lc Q := fun z => r_run 1 (C := zC_53) (i1 := 6) rfl rfl (r_iret rfl rfl (h1 z))
  refine r_run 1 (C := zC_53) (i1 := 1) rfl rfl (r_if (j := 53) (i := 1) (c := .lt) (t := 5) (t1 := 5) rfl rfl ⟨fun x => bad1 (fun z => absurd (show a < 0 from x) (Int32.not_lt.mpr z.1)), fun x => ?_⟩)
  have x : ¬ a < 0 := x
  refine r_run 2 (C := zC_53) (i1 := 4) rfl rfl (r_icmp (j := 53) (i := 4) (c := .lt) (t := 7) (t1 := 7) rfl rfl ⟨fun y => ?_, fun y => bad1 (fun z => y (n_lt7.mpr z.2))⟩)
  have y : a < 7 := y
  have ok : 0 ≤ a ∧ a ≤ 6 := ⟨Int32.not_lt.mp x, n_lt7.mp y⟩
  have bad2 : ¬ (0 ≤ b ∧ b ≤ 9) → Wz (d + 4) 53 12 [.ref 0, .int a, .int b] [] (zCS ++ X) (zCR fr nx P) c lc Q := fun z => r_run 1 (C := zC_53) (i1 := 13) rfl rfl (r_iret rfl rfl (h2 ok z))
  refine r_run 1 (C := zC_53) (i1 := 8) rfl rfl (r_if (j := 53) (i := 8) (c := .lt) (t := 12) (t1 := 12) rfl rfl ⟨fun z => bad2 (fun w => absurd (show b < 0 from z) (Int32.not_lt.mpr w.1)), fun z => ?_⟩)
  have z : ¬ b < 0 := z
  refine r_run 2 (C := zC_53) (i1 := 11) rfl rfl (r_icmp (j := 53) (i := 11) (c := .le) (t := 14) (t1 := 14) rfl rfl ⟨fun w => ?_, fun w => bad2 (fun v => w v.2)⟩)
  have okb : 0 ≤ b ∧ b ≤ 9 := ⟨Int32.not_lt.mp z, w⟩
  refine r_run 5 (C := zC_53) (i1 := 19) (L1 := [.ref 0, .int a, .int b]) (st1 := [.int 10, .int (c 0 10)]) (S1 := zCS ++ X) (R1 := zCR fr nx P) (mi1 := c) (ml1 := lc) rfl rfl (r_icmp (j := 53) (i := 19) (c := .lt) (t := 22) (t1 := 22) rfl rfl ⟨fun v => ?_, fun v => ?_⟩)
  · have v : c 0 10 < 10 := v
    rw [h10] at v
    have n10 := (n_lt (b := 10) (by omega) (by decide)).mp v
    obtain ⟨kd, hkd, rfl⟩ := n_nat x
    have k7 := (n_lt (b := 7) hkd (by decide)).mp y
    refine r_run 9 (C := zC_53) (i1 := 31) (L1 := [.ref 0, .int (Int32.ofNat kd), .int b]) (st1 := [.int (c 0 10), .int b, .int (Int32.ofNat kd), .ref 0, .int (c 0 10), .ref 33]) (S1 := zCS ++ X) (R1 := zCR fr nx P) (mi1 := c) (ml1 := lc) rfl rfl ?_
    rw [h10]
    refine r_call (j := 53) (I := .invokevirtual 45) (v := 45) (j1 := 54) (n := 4) (args := [.ref 0, .int (Int32.ofNat kd), .int b, .int (Int32.ofNat n)]) (rest := [.int (Int32.ofNat n), .ref 33]) rfl rfl rfl rfl rfl rfl (show 4 ≤ 6 by decide) rfl rfl (tg_vi (k := 11) rfl (by decide) rfl rfl) (show 2 ≤ 8 by decide) (show 4 ≤ 4 by decide) (t_54 (d := d) k7 rfl rfl (fun S' R' mi' ml' hP => ?_))
    have hL := nPl_at hP
    have h33 : S'[33]? = some (106, 10) := by rw [hP.1]; exact g_lt (show (zCS ++ X)[33]? = some (106, 10) from rfl)
    have e10 : mi' 0 10 = Int32.ofNat n := by rw [(hP.2.1 0 10 (by rw [List.length_append]; exact Nat.lt_of_lt_of_le (show 0 < 74 by decide) (Nat.le_add_right 74 _))).2.1]; exact h10
    have fin := h4 ok okb n10 kd rfl k7 S' R' mi' ml' hP
    refine r_aast6 (j := 53) (i := 32) rfl h33 (n_zin n10 (by decide)) hL (kd_ci _ k7) ?_
    rw [n_cl (show n < 2147483648 by omega)]
    have hS' := hP.1
    subst hS'
    refine r_run 10 (C := zC_53) (i1 := 43) (L1 := [.ref 0, .int (Int32.ofNat kd), .int b]) (st1 := [.int (zu mi' 0 10 (mi' 0 10 + 1) 0 10 - 1)]) (S1 := zCS ++ X ++ _) (R1 := zu R' 33 n ((zCS ++ X).length + 1)) (mi1 := zu mi' 0 10 (mi' 0 10 + 1)) (ml1 := ml') rfl rfl ?_
    rw [zu_eq, e10, n_suc, n_pred]
    exact r_iret rfl rfl fin
  · have v : ¬ c 0 10 < 10 := v
    rw [h10] at v
    have : n = 10 := Nat.le_antisymm hn (Nat.le_of_not_lt (fun q => v ((n_lt (b := 10) (by omega) (by decide)).mpr q)))
    exact r_run 1 (C := zC_53) (i1 := 21) rfl rfl (r_iret rfl rfl (h3 ok okb this))
end PLANC
section PLANM
variable {d : Nat} {m : zI} {lm : zJ}
theorem t_207_36 {Q : zQ} {n : Nat} {m0 : zI} (hn : n < 10) (h6 : m0 0 6 = Int32.ofNat n) (h : ∀ m', (∀ x k, ¬ (x = 0 ∧ k = 6) → ¬ (x = 4 ∧ 3 * n ≤ k ∧ k < 3 * n + 3) → m' x k = m0 x k) → m' 0 6 = Int32.ofNat (n + 1) → (∀ k, k < 3 → m' 4 (3 * n + k) = 0) → Q (some (.int (Int32.ofNat n))) m' lm) : ∀ (j k : Nat) (m : zI), k + j = 3 → (∀ x q, ¬ (x = 4 ∧ 3 * n ≤ q ∧ q < 3 * n + 3) → m x q = m0 x q) → (∀ q, q < k → m 4 (3 * n + q) = 0) → Wf (d + 1) 207 36 [.ref 0, .retAddr 0, .retAddr 0, .int (Int32.ofNat k)] [] zMS zMR m lm Q
  | 0, k, m, e, f, v => by
    obtain rfl : k = 3 := by omega
    refine B_207_36 _ ⟨fun _ => ?_, fun x => absurd (show (3 : Int32) ≤ Int32.ofNat 3 by decide) x⟩
    rw [f 0 6 (by omega), h6, n_suc, n_pred]
    exact h _ (fun x q h1 h2 => by rw [zu_ne h1]; exact f x q h2) zu_eq (fun q hq => by rw [zu_nc (by decide)]; exact v q hq)
  | j + 1, k, m, e, f, v => by
    have e3 : (3 : Int32) * m 0 6 + Int32.ofNat k = Int32.ofNat (3 * n + k) := by
      rw [f 0 6 (by omega), h6]
      show Int32.ofNat 3 * Int32.ofNat n + Int32.ofNat k = _
      rw [← Int32.ofNat_mul, n_add]
    refine B_207_36 _ ⟨fun x => absurd ((n_le (a := 3) (by decide) (by omega)).mp x) (by omega), fun _ => ?_⟩
    rw [e3, n_suc, n_cl (show 3 * n + k < 2147483648 by omega)]
    refine ⟨n_zin (by omega) (by decide), t_207_36 hn h6 h j (k + 1) _ (by omega) (fun x q hx => by rw [zu_ne (by omega)]; exact f x q hx) (fun q hq => ?_)⟩
    by_cases w : q = k
    · rw [w, zu_eq]
    · rw [zu_nk (by omega)]; exact v q (by omega)
theorem t_207 {K : Int32 → zI → zJ → Prop} {a b : Int32} {n : Nat} (hn : n ≤ 10) (h6 : m 0 6 = Int32.ofNat n) (h1 : ¬ (0 ≤ a ∧ a ≤ 6) → K (-1) m lm) (h2 : (0 ≤ a ∧ a ≤ 6) → ¬ (0 ≤ b ∧ b ≤ 9) → K (-2) m lm) (h3 : (0 ≤ a ∧ a ≤ 6) → (0 ≤ b ∧ b ≤ 9) → n = 10 → K (-4) m lm)
    (h4 : (0 ≤ a ∧ a ≤ 6) → (0 ≤ b ∧ b ≤ 9) → n < 10 → ∀ m', (∀ x k, ¬ (x = 0 ∧ k = 6) → ¬ (2 ≤ x ∧ x ≤ 4) → m' x k = m x k) → m' 0 6 = Int32.ofNat (n + 1) → (∀ k, m' 2 k = if k = n then a else m 2 k) → (∀ k, m' 3 k = if k = n then b else m 3 k) → (∀ k, m' 4 k = if 3 * n ≤ k ∧ k < 3 * n + 3 then 0 else m 4 k) → K (Int32.ofNat n) m' lm) : TI (d + 2) 207 [.ref 0, .int a, .int b] zMS zMR m lm K := by
  refine TI_of (B_207 _ _ (t_157 (d := d) ?_))
  by_cases qa : 0 ≤ a ∧ a ≤ 6
  · rw [if_pos qa]
    refine ⟨fun _ => t_157 (d := d) ?_, fun z => absurd one_ne z⟩
    by_cases qb : 0 ≤ b ∧ b ≤ 9
    · rw [if_pos qb]
      refine ⟨fun _ => ⟨fun x => ?_, fun x => ?_⟩, fun z => absurd one_ne z⟩
      · rw [h6] at x ⊢
        have x : ¬ n = 10 := fun z => x (by rw [z]; rfl)
        have hz := n_zin (k := n) (n := 10) (by omega) (by decide)
        rw [n_cl (show n < 2147483648 by omega)]
        refine ⟨hz, hz, t_207_36 (d := d + 1) (n := n) (m0 := zu (zu m 2 n a) 3 n b) (by omega) (by rw [zu_nc (by decide), zu_nc (by decide)]; exact h6) (fun m' f e0 e4 => ?_) 3 0 _ rfl (fun _ _ _ => rfl) (fun q hq => absurd hq (Nat.not_lt_zero _))⟩
        refine h4 qa qb (by omega) m' (fun x k u v => by rw [f x k u (by omega), zu_nc (by omega), zu_nc (by omega)]) e0 (fun k => ?_) (fun k => ?_) (fun k => ?_)
        · rw [f 2 k (by omega) (by omega), zu_nc (by decide)]
          by_cases w : k = n
          · rw [if_pos w, w, zu_eq]
          · rw [if_neg w, zu_nk w]
        · rw [f 3 k (by omega) (by omega)]
          by_cases w : k = n
          · rw [if_pos w, w, zu_eq]
          · rw [if_neg w, zu_nk w, zu_nc (by decide)]
        · by_cases w : 3 * n ≤ k ∧ k < 3 * n + 3
          · rw [if_pos w]
            have := e4 (k - 3 * n) (by omega)
            rw [show 3 * n + (k - 3 * n) = k by omega] at this
            exact this
          · rw [if_neg w, f 4 k (by omega) (by omega), zu_nc (by decide), zu_nc (by decide)]
      · rw [h6] at x
        exact h3 qa qb ((n_eq (b := 10) (by omega) (by decide)).mp (Decidable.not_not.mp x))
    · rw [if_neg qb]
      exact ⟨fun z => absurd rfl z, fun _ => h2 qa qb⟩
  · rw [if_neg qa]
    exact ⟨fun z => absurd rfl z, fun _ => h1 qa⟩
end PLANM
theorem zk_lt {S Y : zS} {c : Nat} (h : c < S.length) : zk (S ++ Y) c = zk S c ∧ zn (S ++ Y) c = zn S c := by
  unfold zk zn
  rw [zgl_eq, zgl_eq, List.getElem?_append_left h]
  exact ⟨rfl, rfl⟩
theorem zCR_ext {fr nx : Nat} {P R : zR0} (h : ∀ c k, c < 74 → c ≠ 33 → R c k = zCR fr nx P c k) : R = zCR fr nx R := by
  funext c k
  by_cases e : 74 ≤ c
  · rw [zCR_P e]
  · by_cases q : c = 33
    · subst q; rfl
    · rw [h c k (by omega) q]
      have e1 : Nat.ble 74 c = false := by
        cases hh : Nat.ble 74 c with
        | false => rfl
        | true => exact absurd (Nat.le_of_ble_eq_true hh) e
      have e2 : Nat.beq c 33 = false := by
        cases hh : Nat.beq c 33 with
        | false => rfl
        | true => exact absurd (Nat.eq_of_beq_eq_true hh) q
      unfold zCR
      rw [e1, e2]
      rfl
theorem zGr_5 {X : zS} {kd : Nat} : zGr X (X ++ (if kd = 5 then [(10, 6), (100, 3), (100, 3)] else [(zKd kd, 4)])) := by
  unfold zGr
  rw [List.length_append, List.map_append, List.sum_append]
  by_cases k : kd = 5
  · rw [if_pos k]; exact ⟨Nat.le_refl _, Nat.le_refl _⟩
  · rw [if_neg k]
    refine ⟨?_, ?_⟩
    · show X.length + 1 ≤ X.length + 3; omega
    · show (X.map (·.2)).sum + 4 ≤ _; omega
theorem s_plan {a b : Int32} : sI 53 207 [.int a, .int b] := by
  intro X fr nx P c lc m lm h
  have h' := h
  obtain ⟨hf, hm, tx, ac, tp, N0, T0, f, g, i0, j0⟩ := h'
  have b10 := i0.1.1.2
  have e6 := i0.1.1.1
  have e10 : c 0 10 = Int32.ofNat (mPl m) := by rw [i0.2.1, e6]
  have len : (zCS ++ X).length = 74 + X.length := by rw [List.length_append]; rfl
  refine t_53 (d := 36) b10 e10 (fun z => ⟨_, X, fr, nx, P, rfl, rfl, zGr_rfl X, rfl, ?_⟩) (fun z w => ⟨_, X, fr, nx, P, rfl, rfl, zGr_rfl X, rfl, ?_⟩) (fun z w v => ⟨_, X, fr, nx, P, rfl, rfl, zGr_rfl X, rfl, ?_⟩) (fun z w v kd ea k7 S' R' mi' ml' hP => ?_)
  · exact t_207 (d := 38) b10 e6 (fun _ => ⟨rfl, h⟩) (fun y => absurd y z) (fun y => absurd y z) (fun y => absurd y z)
  · exact t_207 (d := 38) b10 e6 (fun y => absurd z y) (fun _ _ => ⟨rfl, h⟩) (fun _ y => absurd y w) (fun _ y => absurd y w)
  · exact t_207 (d := 38) b10 e6 (fun y => absurd z y) (fun _ y => absurd w y) (fun _ _ _ => ⟨rfl, h⟩) (fun _ _ y => by omega)
  · have hat := nPl_at hP
    obtain ⟨p1, p2, p3, p4, p5, p6, p7⟩ := hP
    rw [len] at p2 p3 p4 p5 p6 p7 hat
    have eR : zu R' 33 (mPl m) ((zCS ++ X).length + 1) = zCR fr nx (zu R' 33 (mPl m) ((zCS ++ X).length + 1)) := zCR_ext (P := P) (fun x k h1 h2 => by rw [zu_nc h2]; exact (p2 x k (by omega)).1)
    refine ⟨_, X ++ (if kd = 5 then [(10, 6), (100, 3), (100, 3)] else [(zKd kd, 4)]), fr, nx, zu R' 33 (mPl m) ((zCS ++ X).length + 1), rfl, by rw [p1, List.append_assoc], zGr_5, eR, ?_⟩
    refine t_207 (d := 38) b10 e6 (fun y => absurd z y) (fun _ y => absurd w y) (fun _ _ y => by omega) (fun _ _ _ m' M e6' m2 m3 m4 => ⟨rfl, ?_⟩)
    have C : ∀ x k, x < 74 + X.length → ¬ (x = 0 ∧ k = 10) → zu mi' 0 10 (Int32.ofNat (mPl m + 1)) x k = c x k := fun x k h1 h2 => by rw [zu_ne h2]; exact (p2 x k h1).2.1
    refine rl_plans h (fun x k h1 h2 => C x k (by omega) h2) (fun x k h1 => (p2 x k (by omega)).2.2) M (fun N T i j => ⟨fun p => if p = mPl m then 74 + X.length else T p, ?_, ?_⟩)
    · have en : mPl m' = mPl m + 1 := by
        have q : mPl m' = (Int32.ofNat (mPl m + 1)).toNatClampNeg := by rw [← e6']; rfl
        rw [q, n_cl (by omega)]
      have ek : ∀ p, mKd m' p = if p = mPl m then kd else mKd m p := fun p => by
        unfold mKd
        rw [m2]
        by_cases q : p = mPl m
        · rw [if_pos q, if_pos q, ea, n_cl (by omega)]
        · rw [if_neg q, if_neg q]
      have es : ∀ p, rSz m' p = if p = mPl m then (if kd = 5 then 3 else 1) else rSz m p := fun p => by
        unfold rSz
        rw [ek]
        by_cases q : p = mPl m
        · rw [if_pos q, if_pos q]
        · rw [if_neg q, if_neg q]
      obtain ⟨⟨i1, i2⟩, i3, i4⟩ := i.1
      obtain ⟨vb, hvb, evb⟩ : ∃ vb : Nat, vb < 10 ∧ b = Int32.ofNat vb := by
        obtain ⟨n, hn, rfl⟩ := n_nat (Int32.not_lt.mpr w.1)
        have := (n_le (b := 9) hn (by decide)).mp w.2
        exact ⟨n, by omega, rfl⟩
      refine ⟨⟨⟨by rw [e6', en], by omega⟩, fun p hp => ?_, fun k hk => ?_⟩, by rw [zu_eq, e6'], fun p hp => ?_, fun p q hpq hq => ?_⟩
      · obtain ⟨⟨k1, k2⟩, k3, k4⟩ := i3 p hp
        have ev : mV m' p = if p = mPl m then vb else mV m p := by
          unfold mV
          rw [m3]
          by_cases q : p = mPl m
          · rw [if_pos q, if_pos q, evb, n_cl (by omega)]
          · rw [if_neg q, if_neg q]
        rw [ek, ev, m2, m3]
        by_cases q : p = mPl m
        · rw [if_pos q, if_pos q, if_pos q, if_pos q]
          exact ⟨⟨ea, k7⟩, evb, hvb⟩
        · rw [if_neg q, if_neg q, if_neg q, if_neg q]
          exact ⟨⟨k1, k2⟩, k3, k4⟩
      · have et : mTl m' k = if 3 * mPl m ≤ k ∧ k < 3 * mPl m + 3 then 0 else mTl m k := by
          unfold mTl
          rw [m4]
          by_cases q : 3 * mPl m ≤ k ∧ k < 3 * mPl m + 3
          · rw [if_pos q, if_pos q]; rfl
          · rw [if_neg q, if_neg q]
        rw [et, m4]
        by_cases q : 3 * mPl m ≤ k ∧ k < 3 * mPl m + 3
        · rw [if_pos q, if_pos q]; exact ⟨rfl, by decide⟩
        · rw [if_neg q, if_neg q]; exact i4 k hk
      · have len' : ∀ y, y < 74 + X.length → zk (zCS ++ (X ++ (if kd = 5 then [(10, 6), (100, 3), (100, 3)] else [(zKd kd, 4)]))) y = zk (zCS ++ X) y ∧ zn (zCS ++ (X ++ (if kd = 5 then [(10, 6), (100, 3), (100, 3)] else [(zKd kd, 4)]))) y = zn (zCS ++ X) y := fun y hy => by
          rw [← List.append_assoc]
          exact zk_lt (by rw [len]; exact hy)
        rw [ek, es]
        dsimp only
        by_cases q : p = mPl m
        · subst q
          rw [if_pos rfl, if_pos rfl, if_pos rfl, m2, m3, if_pos rfl, if_pos rfl]
          have hat' : (zCS ++ (X ++ (if kd = 5 then [(10, 6), (100, 3), (100, 3)] else [(zKd kd, 4)])))[74 + X.length]? = some (zKd kd, if kd = 5 then 6 else 4) := by rw [← List.append_assoc, ← p1]; exact hat
          refine ⟨⟨by rw [zu_eq, len], by omega, (zk_some hat').1, (zk_some hat').2, ?_, ?_, ?_, ?_, ?_⟩, fun k5 => ⟨⟨?_, ?_, ?_, ?_, ?_, ?_⟩, fun k hk => ?_⟩⟩
          · rw [zu_nc (by omega), p4]; exact ea.symm
          · rw [zu_nc (by omega)]; exact p5
          · rw [zu_nc (by omega)]; exact p6
          · rw [zu_nc (by omega)]; exact p3
          · rw [List.length_append]
            by_cases k5 : kd = 5
            · rw [if_pos k5, if_pos k5]; show 74 + X.length + 3 ≤ 74 + (X.length + 3); omega
            · rw [if_neg k5, if_neg k5]; show 74 + X.length + 1 ≤ 74 + (X.length + 1); omega
          · rw [zu_nc (by omega)]; exact (p7 k5).1
          · rw [zu_nc (by omega)]; exact (p7 k5).2.1
          all_goals first
            | (have h1 : (zCS ++ (X ++ (if kd = 5 then [(10, 6), (100, 3), (100, 3)] else [(zKd kd, 4)])))[74 + X.length + 1]? = some (100, 3) := by
                 rw [if_pos k5, ← List.append_assoc, List.getElem?_append_right (by rw [len]; omega), len, show 74 + X.length + 1 - (74 + X.length) = 1 by omega]; rfl
               first
                 | exact (zk_some h1).1
                 | exact (zk_some h1).2)
            | (have h2 : (zCS ++ (X ++ (if kd = 5 then [(10, 6), (100, 3), (100, 3)] else [(zKd kd, 4)])))[74 + X.length + 2]? = some (100, 3) := by
                 rw [if_pos k5, ← List.append_assoc, List.getElem?_append_right (by rw [len]; omega), len, show 74 + X.length + 2 - (74 + X.length) = 2 by omega]; rfl
               first
                 | exact (zk_some h2).1
                 | exact (zk_some h2).2)
            | (rw [zu_nc (by omega), ((p7 k5).2.2 k).1, m4, if_pos (by omega)])
        · rw [en] at hp
          rw [if_neg q, if_neg q, if_neg q, m2, m3, if_neg q, if_neg q]
          obtain ⟨⟨u1, u2, u3, u4, u5, u6, u7, u8, u9⟩, u10⟩ := i.2.2.1 p (by omega)
          have sz1 : 1 ≤ rSz m p := by unfold rSz; split <;> omega
          have sz3 : mKd m p = 5 → rSz m p = 3 := fun k5 => by unfold rSz; rw [if_pos k5]
          have PR : ∀ y k, 74 ≤ y → y < 74 + X.length → zu R' 33 (mPl m) ((zCS ++ X).length + 1) y k = P y k := fun y k h1 h2 => by rw [zu_nc (by omega), (p2 y k h2).1, zCR_P h1]
          refine ⟨⟨?_, u2, by rw [(len' _ (by omega)).1]; exact u3, by rw [(len' _ (by omega)).2]; exact u4, by rw [C _ _ (by omega) (by omega)]; exact u5, by rw [C _ _ (by omega) (by omega)]; exact u6, by rw [C _ _ (by omega) (by omega)]; exact u7, by rw [PR _ _ u2 (by omega)]; exact u8, by rw [List.length_append]; omega⟩, fun k5 => ?_⟩
          · rw [zu_nk q, (p2 33 p (by omega)).1]; exact u1
          · obtain ⟨⟨v1, v2, v3, v4, v5, v6⟩, v7⟩ := u10 k5
            have s3 := sz3 k5
            refine ⟨⟨by rw [PR _ _ u2 (by omega)]; exact v1, by rw [PR _ _ u2 (by omega)]; exact v2, by rw [(len' _ (by omega)).1]; exact v3, by rw [(len' _ (by omega)).2]; exact v4, by rw [(len' _ (by omega)).1]; exact v5, by rw [(len' _ (by omega)).2]; exact v6⟩, fun k hk => ?_⟩
            rw [C _ _ (by omega) (by omega), m4, if_neg (by omega)]
            exact v7 k hk
      · rw [en] at hq
        rw [es]
        dsimp only
        have pn : ¬ p = mPl m := by omega
        rw [if_neg pn, if_neg pn]
        by_cases q' : q = mPl m
        · rw [if_pos q']
          exact ((i.2.2.1 p (by omega)).1).2.2.2.2.2.2.2.2
        · rw [if_neg q']
          exact i.2.2.2 p q hpq (by omega)
    · have en : mPl m' = mPl m + 1 := by
        have q : mPl m' = (Int32.ofNat (mPl m + 1)).toNatClampNeg := by rw [← e6']; rfl
        rw [q, n_cl (by omega)]
      have M0 : ∀ k, 50 ≤ k → m' 0 k = m 0 k := fun k hk => M 0 k (by omega) (by decide)
      have M1 : ∀ x k, 5 ≤ x → m' x k = m x k := fun x k hx => M x k (by omega) (by omega)
      rcases j with ⟨j1, j2⟩ | ⟨j1, j2, gm, q1, q2, q3, q4, ⟨q5, q5'⟩, q6, q7⟩
      · exact .inl ⟨by rw [C 0 2 (by omega) (by decide)]; exact j1, by rw [M0 50 (by decide)]; exact j2⟩
      · refine .inr ⟨by rw [C 0 2 (by omega) (by decide)]; exact j1, by rw [M0 50 (by decide)]; exact j2, gm, cFul_eq (fun k => C _ _ (by omega) (by omega)) (fun k _ => C _ _ (by omega) (by omega)) (fun k _ => C _ _ (by omega) (by omega)) (fun _ _ => rfl) (fun _ _ => rfl) (fun _ _ => rfl) q1, q2, q3, ?_, ⟨q5, by omega⟩, q6, fun p hp hk k k3 => ?_⟩
        · obtain ⟨s1, s2, s3, s4, s5, s6, s7, s8⟩ := q4
          exact ⟨by rw [M0 51 (by decide)]; exact s1, by rw [M0 52 (by decide)]; exact s2, by rw [M0 53 (by decide)]; exact s3, by rw [M0 54 (by decide)]; exact s4, by rw [M0 55 (by decide)]; exact s5, mSlot_m (fun k _ _ => M1 _ _ (by decide)) s6, fun k hk => by rw [M1 31 k (by decide)]; exact s7 k hk, fun k hk => by rw [M1 32 k (by decide)]; exact s8 k hk⟩
        · dsimp only
          by_cases q : p = mPl m
          · have k5 : kd = 5 := by
              have : mKd m' p = kd := by unfold mKd; rw [m2, if_pos q, ea, n_cl (by omega)]
              omega
            rw [if_pos q, zu_nc (by omega), ((p7 k5).2.2 k).2, if_neg (by omega)]
          · have k5 : mKd m p = 5 := by
              have : mKd m' p = mKd m p := by unfold mKd; rw [m2, if_neg q]
              omega
            have := ((i.2.2.1 p (by omega)).1)
            have s3 : rSz m p = 3 := by unfold rSz; rw [if_pos k5]
            have u9 := this.2.2.2.2.2.2.2.2
            rw [if_neg q, C _ _ (by omega) (by omega)]
            exact q7 p (by omega) k5 k k3
