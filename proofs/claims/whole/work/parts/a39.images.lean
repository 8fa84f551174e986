/-! row; image, undo. -/
theorem rl_plans {X X' : zS} {fr nx : Nat} {P P' : zR0} {c c' m m' : zI} {lc lc' lm : zJ} (h : Rl X fr nx P c lc m lm) (C : ∀ x k, x < 74 → ¬ (x = 0 ∧ k = 10) → c' x k = c x k) (L : ∀ x k, x < 74 → lc' x k = lc x k) (M : ∀ x k, ¬ (x = 0 ∧ k = 6) → ¬ (2 ≤ x ∧ x ≤ 4) → m' x k = m x k) (hp : ∀ N T, rPl T X P c m → rImg N T c m → ∃ T', rPl T' X' P' c' m' ∧ rImg N T' c' m') : Rl X' fr nx P' c' lc' m' lm := by
  obtain ⟨hf, hm, a, b, e, N, T, f, g, i, j⟩ := h
  obtain ⟨T', i', j'⟩ := hp N T i j
  have C1 : ∀ x k, 1 ≤ x → x < 74 → c' x k = c x k := fun x k h1 h2 => C x k h2 (by omega)
  have M1 : ∀ x k, x = 1 ∨ 5 ≤ x → m' x k = m x k := fun x k h1 => M x k (by omega) (by omega)
  refine ⟨hf, ?_, rTxt_eq (C1 _ _ (by decide) (by decide)) (fun k => C1 _ _ (by decide) (by decide)) (M _ _ (by decide) (by decide)) (fun k => M1 _ _ (by decide)) (fun x k x1 x2 => M1 _ _ (by omega)) a, rAct_eq (fun k => C1 _ _ (by decide) (by decide)) (M _ _ (by decide) (by decide)) (fun k => M1 _ _ (by decide)) b, rTap_eq (fun k => C1 _ _ (by decide) (by decide)) (fun k => C1 _ _ (by decide) (by decide)) (fun x k _ _ => L x k (by omega)) (fun k => M1 _ _ (by decide)) (fun k => M1 _ _ (by decide)) (fun _ => rfl) e, N, T', ?_, ?_, i', j'⟩
  · obtain ⟨lo, hi, e1, e2, e3, e4, e5⟩ := hm
    refine ⟨lo, hi, by rw [C1 _ _ (by decide) (by decide)]; exact e1, by rw [C1 _ _ (by decide) (by decide)]; exact e2, e3, e4, fun lo2 k q hk hq => ?_⟩
    have : nAt lc' k q = nAt lc k q := by unfold nAt; rw [L 18 _ (by decide)]
    rw [this]; exact e5 lo2 k q hk hq
  · obtain ⟨f1, f2, f3⟩ := f
    refine ⟨cFul_eq (fun k => C1 _ _ (by decide) (by decide)) (fun k _ => C1 _ _ (by decide) (by decide)) (fun k _ => C1 _ _ (by decide) (by decide)) (fun k hk => M _ _ (by omega) (by decide)) (fun k _ => M1 _ _ (by decide)) (fun k _ => M1 _ _ (by decide)) f1, iNw_eq (fun k hk => M _ _ (by omega) (by decide)) (fun k _ => M1 _ _ (by decide)) (fun k _ => M1 _ _ (by decide)) f2, ?_⟩
    unfold rHo
    rw [M 0 13 (by decide) (by decide)]
    exact f3
  · obtain ⟨g1, g2, g3, g4, g5⟩ := g
    refine ⟨by rw [C _ _ (by decide) (by decide)]; exact g1, by rw [M _ _ (by decide) (by decide)]; exact g2, g3, fun p hp => ?_, cPa_at (fun x k x1 x2 => C1 x k (by omega) (by omega)) g5⟩
    obtain ⟨cs, w1, w2, w3⟩ := g4 p hp
    exact ⟨cs, w1, xTxt_eq (M1 _ _ (by decide)) (fun x k x1 x2 _ _ => M1 _ _ (by omega)) (fun k _ _ => M1 _ _ (by decide)) w2, cPa_at (fun x k x1 x2 => C1 x k (by omega) (by omega)) w3⟩
/-- cells of plans are apart -/
theorem pl_apart {T : Nat → Nat} {X : zS} {P : zR0} {c m : zI} (h : rPl T X P c m) {p q : Nat} (hp : p < mPl m) (hq : q < mPl m) (hk : mKd m p = 5) (hne : ¬ q = p) : T q ≠ T p + 1 ∧ T q ≠ T p + 2 ∧ (mKd m q = 5 → T q + 1 ≠ T p + 1 ∧ T q + 2 ≠ T p + 1 ∧ T q + 1 ≠ T p + 2 ∧ T q + 2 ≠ T p + 2) := by
  have sp : rSz m p = 3 := by unfold rSz; rw [if_pos hk]
  have s1 : 1 ≤ rSz m q := by unfold rSz; split <;> omega
  have s3 : mKd m q = 5 → rSz m q = 3 := fun z => by unfold rSz; rw [if_pos z]
  by_cases w : p < q
  · have := h.2.2.2 p q w hq
    exact ⟨by omega, by omega, fun z => by omega⟩
  · have := h.2.2.2 q p (by omega) hp
    exact ⟨by omega, by omega, fun z => by have := s3 z; omega⟩
section ROWS3
variable {d : Nat} {X : zS} {fr nx : Nat} {P : zR0} {c m : zI} {lc lm : zJ} {T : Nat → Nat}
theorem pl_kz (h : rPl T X P c m) {p : Nat} (hp : p < mPl m) : zk (zCS ++ X) (T p) = zKd (mKd m p) ∧ zKd (mKd m p) < 13 ∧ mKd m p < 7 := by
  have := (h.1.2.1 p (by have := h.1.1.2; omega)).1.2
  exact ⟨((h.2.2.1 p hp).1).2.2.1, (kd_class _ this).2, this⟩
theorem pl_g5 (h : rPl T X P c m) {p k : Nat} (hp : p < mPl m) (hk : mKd m p = 5) (k6 : k < 6) : zand (zhas [10] (zk (zCS ++ X) (T p))) (Nat.blt k (zn (zCS ++ X) (T p))) = true := by
  obtain ⟨⟨e1, e2, e3, e4, -⟩, -⟩ := h.2.2.1 p hp
  rw [e3, e4, hk, if_pos rfl]
  exact Nat.ble_eq_true_of_le (by omega)
theorem t_83 {K : Int32 → zI → zJ → Prop} {p k : Nat} {b : Int32} (h : rPl T X P c m) (hp : p < mPl m) (hk : mKd m p = 5) (k3 : k < 3) (hK : K (c (T p + 1) k) (zu c (T p + 1) k b) lc) : TI (d + 1) 83 [.ref (T p), .int (Int32.ofNat k), .int b] (zCS ++ X) (zCR fr nx P) c lc K := by
  obtain ⟨⟨e1, e2, e3, e4, e5, e6, e7, e8, e9⟩, k5⟩ := h.2.2.1 p hp
  obtain ⟨⟨r1, r2, r3, r4, r5, r6⟩, r7⟩ := k5 hk
  have g := pl_g5 h hp hk (k := 4) (by decide)
  have z4 : zCR fr nx P (T p) 4 = T p + 2 := by rw [zCR_P e2]; exact r1
  have to : ∀ c1, zCR fr nx P (T p) 4 = c1 + 1 → c1 = T p + 1 := fun c1 e => by omega
  have hz : zin (Int32.ofNat k) (zn (zCS ++ X) (T p + 1)) = true := by rw [r4]; exact n_zin k3 (by decide)
  refine TI_of (B_83 (T p) _ _ ⟨fun x => absurd x (n_neg (by omega)), fun _ => ⟨g, by omega, fun c1 e1 => ?_⟩⟩)
  obtain rfl := to c1 e1
  rw [r3, r4]
  refine ⟨rfl, fun _ => ⟨g, by omega, fun c2 e2 => ?_⟩, fun x => absurd ((n_lt (b := 3) (by omega) (by decide)).mpr k3) x⟩
  obtain rfl := to c2 e2
  refine ⟨by rw [r3]; rfl, hz, g, by omega, fun c3 e3 => ?_⟩
  obtain rfl := to c3 e3
  rw [n_cl (show k < 2147483648 by omega)]
  exact ⟨by rw [r3]; rfl, hz, hK⟩
theorem t_82 {K : Int32 → zI → zJ → Prop} {a b e : Int32} (h : rPl T X P c m) (h1 : ¬ (mIsP m a ∧ (0 ≤ b ∧ b ≤ 2)) → K (-1) c lc) (h2 : mIsP m a → (0 ≤ b ∧ b ≤ 2) → ¬ (0 ≤ e ∧ e ≤ 31) → K (-2) c lc) (h3 : ∀ p, mIsP m a → (0 ≤ b ∧ b ≤ 2) → (0 ≤ e ∧ e ≤ 31) → p < mPl m → a = Int32.ofNat p → ¬ mKd m p = 5 → K (-3) c lc)
    (hK : ∀ p k, mIsP m a → (0 ≤ b ∧ b ≤ 2) → (0 ≤ e ∧ e ≤ 31) → p < mPl m → a = Int32.ofNat p → k < 3 → b = Int32.ofNat k → mKd m p = 5 → K (c (T p + 1) k) (zu c (T p + 1) k e) lc) : TI (d + 2) 82 [.ref 0, .int a, .int b, .int e] (zCS ++ X) (zCR fr nx P) c lc K := by
  refine TI_of (B_82 _ _ _ (t_63r (d := d) h (fun q => ⟨fun _ => h1 (fun z => q z.1), fun c2 e => absurd e (by omega)⟩) (fun p p1 p2 pe => ⟨fun e => absurd e (by omega), fun c2 e2 => ?_⟩)))
  obtain rfl : c2 = T p := by omega
  obtain ⟨i1, i2⟩ := isP_of h.1 p1 pe
  refine ⟨fun x => h1 (fun z => absurd x (Int32.not_lt.mpr z.2.1)), fun x => ⟨fun y => ?_, fun y => h1 (fun z => y (n_lt3.mpr z.2.2))⟩⟩
  have ob : 0 ≤ b ∧ b ≤ 2 := ⟨Int32.not_lt.mp x, n_lt3.mp y⟩
  refine ⟨fun z => h2 i1 ob (fun w => absurd z (Int32.not_lt.mpr w.1)), fun z => ⟨fun w => ?_, fun w => h2 i1 ob (fun v => w (n_lt32.mpr v.2))⟩⟩
  have oe : 0 ≤ e ∧ e ≤ 31 := ⟨Int32.not_lt.mp z, n_lt32.mp w⟩
  obtain ⟨hz, h13, h7⟩ := pl_kz h p1
  obtain ⟨k, hk, rfl⟩ := n_nat x
  have k3 := (n_lt (b := 3) hk (by decide)).mp y
  by_cases q : mKd m p = 5
  · refine ⟨83, tg_vi (k := 10) (by rw [hz, q]; rfl) (by decide) rfl rfl, show 3 ≤ _ by decide, ?_⟩
    exact t_83 (d := d) h p1 q k3 (hK p k i1 ob oe p1 pe k3 rfl q)
  · have fin : TI (d + 1) 84 [.ref (T p), .int (Int32.ofNat k), .int e] (zCS ++ X) (zCR fr nx P) c lc (fun v4 mi4 ml4 => qI K (some (.int v4)) mi4 ml4) := TI_of (B_84 (T p) _ _ (h3 p i1 ob oe p1 pe q))
    have tab : ∀ kd : Nat, kd < 7 → ¬ kd = 5 → (zV 83).2.2.lookup (zKd kd) = some 84 := by decide
    exact ⟨84, tg_vi hz h13 rfl (tab _ h7 q), show 3 ≤ _ by decide, fin⟩
theorem t_217 {K : Int32 → zI → zJ → Prop} {a b e : Int32} (hP : iPl m) (h1 : ¬ (mIsP m a ∧ (0 ≤ b ∧ b ≤ 2)) → K (-1) m lm) (h2 : mIsP m a → (0 ≤ b ∧ b ≤ 2) → ¬ (0 ≤ e ∧ e ≤ 31) → K (-2) m lm) (h3 : ∀ p, mIsP m a → (0 ≤ b ∧ b ≤ 2) → (0 ≤ e ∧ e ≤ 31) → p < mPl m → a = Int32.ofNat p → ¬ mKd m p = 5 → K (-3) m lm)
    (hK : ∀ p k, mIsP m a → (0 ≤ b ∧ b ≤ 2) → (0 ≤ e ∧ e ≤ 31) → p < mPl m → a = Int32.ofNat p → k < 3 → b = Int32.ofNat k → mKd m p = 5 → K (m 4 (3 * p + k)) (zu m 4 (3 * p + k) e) lm) : TI (d + 3) 217 [.ref 0, .int a, .int b, .int e] zMS zMR m lm K := by
  refine TI_of (B_217 _ _ _ (t_209 (d := d) hP ?_))
  by_cases q : mIsP m a
  · rw [if_pos q]
    refine ⟨fun z => absurd z one_ne, fun _ => t_157 (d := d + 1) ?_⟩
    by_cases ob : 0 ≤ b ∧ b ≤ 2
    · rw [if_pos ob]
      refine ⟨fun _ => t_157 (d := d + 1) ?_, fun z => absurd one_ne z⟩
      by_cases oe : 0 ≤ e ∧ e ≤ 31
      · rw [if_pos oe]
        obtain ⟨p, p1, p2, pe, pc⟩ := mIsP_nat hP q
        subst pe
        obtain ⟨k, hk, rfl⟩ := n_nat (Int32.not_lt.mpr ob.1)
        have k3 := (n_le (b := 2) hk (by decide)).mp ob.2
        have hkd := (hP.2.1 p p1).1
        have e3 : (3 : Int32) * Int32.ofNat p + Int32.ofNat k = Int32.ofNat (3 * p + k) := by
          show Int32.ofNat 3 * Int32.ofNat p + Int32.ofNat k = _
          rw [← Int32.ofNat_mul, n_add]
        have hz := n_zin (k := 3 * p + k) (n := 30) (by omega) (by decide)
        refine ⟨fun _ => ⟨n_zin p1 (by decide), ?_⟩, fun z => absurd one_ne z⟩
        rw [n_cl (show p < 2147483648 by omega), hkd.1, e3, n_cl (show 3 * p + k < 2147483648 by omega)]
        refine ⟨fun w => ⟨hz, hz, hK p k q ob oe p2 rfl (by omega) rfl ((n_eq (b := 5) (by omega) (by decide)).mp w)⟩, fun w => h3 p q ob oe p2 rfl (fun z => w (by rw [z]; rfl))⟩
      · rw [if_neg oe]
        exact ⟨fun z => absurd rfl z, fun _ => h2 q ob oe⟩
    · rw [if_neg ob]
      exact ⟨fun z => absurd rfl z, fun _ => h1 (fun z => ob z.2)⟩
  · rw [if_neg q]
    exact ⟨fun _ => h1 (fun z => q z.1), fun z => absurd rfl z⟩
end ROWS3
theorem iPl_put {m m' : zI} {j g : Nat} (h : iPl m) (h6 : m' 0 6 = m 0 6) (h2 : ∀ k, m' 2 k = m 2 k) (h3 : ∀ k, m' 3 k = m 3 k) (h4 : ∀ k, m' 4 k = if k = j then Int32.ofNat g else m 4 k) (hg : g < 32) : iPl m' := by
  obtain ⟨⟨a, b⟩, e, f⟩ := h
  have en : mPl m' = mPl m := by unfold mPl; rw [h6]
  have ek : ∀ p, mKd m' p = mKd m p := fun p => by unfold mKd; rw [h2]
  have ev : ∀ p, mV m' p = mV m p := fun p => by unfold mV; rw [h3]
  refine ⟨⟨by rw [h6, en]; exact a, by rw [en]; exact b⟩, fun p hp => by rw [h2, h3, ek, ev]; exact e p hp, fun k hk => ?_⟩
  have : mTl m' k = if k = j then g else mTl m k := by
    unfold mTl
    rw [h4]
    split
    · rw [n_cl (by omega)]
    · rfl
  rw [this, h4]
  split
  · exact ⟨rfl, hg⟩
  · exact f k hk
theorem s_row {a b e : Int32} : sI 82 217 [.int a, .int b, .int e] := by
  intro X fr nx P c lc m lm h
  have h' := h
  obtain ⟨_, _, _, _, _, N0, T0, _, _, i, _⟩ := h'
  refine TG_I (t_82 (d := 38) i (fun z => ?_) (fun z w v => ?_) (fun p z w v pp pe k5 => ?_) (fun p k z w v pp pe k3 eb k5 => ?_))
  · exact t_217 (d := 37) i.1 (fun _ => ⟨rfl, h⟩) (fun y1 y2 => absurd ⟨y1, y2⟩ z) (fun _ y1 y2 => absurd ⟨y1, y2⟩ z) (fun _ _ y1 y2 => absurd ⟨y1, y2⟩ z)
  · exact t_217 (d := 37) i.1 (fun y => absurd ⟨z, w⟩ y) (fun _ _ _ => ⟨rfl, h⟩) (fun _ _ _ y => absurd y v) (fun _ _ _ _ y => absurd y v)
  · refine t_217 (d := 37) i.1 (fun y => absurd ⟨z, w⟩ y) (fun _ _ y => absurd v y) (fun _ _ _ _ _ _ _ => ⟨rfl, h⟩) (fun p' k' _ _ _ _ pe' _ _ k5' => ?_)
    have b10 := i.1.1.2
    obtain rfl := (n_eq (by omega) (by omega)).mp (pe.symm.trans pe')
    exact absurd k5' k5
  · have b10 := i.1.1.2
    refine t_217 (d := 37) i.1 (fun y => absurd ⟨z, w⟩ y) (fun _ _ y => absurd v y) (fun p' _ _ _ _ pe' y => ?_) (fun p' k' _ _ _ pp' pe' k3' eb' k5' => ?_)
    · obtain rfl := (n_eq (by omega) (by omega)).mp (pe.symm.trans pe')
      exact absurd k5 y
    · obtain rfl := (n_eq (by omega) (by omega)).mp (pe.symm.trans pe')
      obtain rfl := n_inj32 eb eb' (by omega) (by omega)
      obtain ⟨g, hg, rfl⟩ := n_nat (Int32.not_lt.mpr v.1)
      have g32 := (n_le (b := 31) hg (by decide)).mp v.2
      have t74 : 74 ≤ T0 p := ((i.2.2.1 p pp).1).2.1
      refine ⟨((i.2.2.1 p pp).2 k5).2 k k3, rl_plans h (fun x y hx _ => zu_nc (by omega)) (fun _ _ _ => rfl) (fun x y _ hx => zu_nc (by omega)) (fun N T i2 j2 => ⟨T, ?_, ?_⟩)⟩
      · have tp : T p = T0 p := by
          have e1 := ((i.2.2.1 p pp).1).1
          have e2 := ((i2.2.2.1 p pp).1).1
          omega
        rw [← tp]
        have e4 : ∀ y, zu m 4 (3 * p + k) (Int32.ofNat g) 4 y = if y = 3 * p + k then Int32.ofNat g else m 4 y := fun y => by
          by_cases q : y = 3 * p + k
          · rw [if_pos q, q, zu_eq]
          · rw [if_neg q, zu_nk q]
        have e0 : ∀ x y, x ≠ 4 → zu m 4 (3 * p + k) (Int32.ofNat g) x y = m x y := fun x y hx => zu_nc hx
        have ek : ∀ q, mKd (zu m 4 (3 * p + k) (Int32.ofNat g)) q = mKd m q := fun q => by unfold mKd; rw [e0 2 _ (by decide)]
        have es : ∀ q, rSz (zu m 4 (3 * p + k) (Int32.ofNat g)) q = rSz m q := fun q => by unfold rSz; rw [ek]
        have en : mPl (zu m 4 (3 * p + k) (Int32.ofNat g)) = mPl m := by unfold mPl; rw [e0 0 _ (by decide)]
        refine ⟨iPl_put i2.1 (e0 0 _ (by decide)) (fun y => e0 2 y (by decide)) (fun y => e0 3 y (by decide)) e4 (by omega), by rw [zu_nc (by omega), e0 0 _ (by decide)]; exact i2.2.1, fun q hq => ?_, fun q q' h1 h2 => by rw [es]; exact i2.2.2.2 q q' h1 (by rw [← en]; exact h2)⟩
        rw [en] at hq
        obtain ⟨⟨u1, u2, u3, u4, u5, u6, u7, u8, u9⟩, u10⟩ := i2.2.2.1 q hq
        have ne1 : T q ≠ T p + 1 := by
          by_cases qp : q = p
          · rw [qp]; omega
          · exact (pl_apart i2 pp hq k5 qp).1
        rw [ek, es]
        refine ⟨⟨u1, u2, u3, u4, by rw [zu_nc ne1, e0 2 _ (by decide)]; exact u5, by rw [zu_nc ne1, e0 3 _ (by decide)]; exact u6, by rw [zu_nc ne1]; exact u7, u8, u9⟩, fun k5q => ?_⟩
        obtain ⟨v1, v2⟩ := u10 k5q
        refine ⟨v1, fun y y3 => ?_⟩
        rw [e4]
        by_cases qp : q = p
        · subst qp
          by_cases yk : y = k
          · subst yk
            rw [zu_eq, if_pos rfl]
          · rw [zu_nk yk, if_neg (by omega)]; exact v2 y y3
        · rw [zu_nc ((pl_apart i2 pp hq k5 qp).2.2 k5q).1, if_neg (by omega)]; exact v2 y y3
      · have tp : T p = T0 p := by
          have e1 := ((i.2.2.1 p pp).1).1
          have e2 := ((i2.2.2.1 p pp).1).1
          omega
        rw [← tp]
        have t74' := ((i2.2.2.1 p pp).1).2.1
        refine rImg_eq (Nat.le_refl _) (zu_nc (by omega)) (fun x y x1 x2 => zu_nc (by omega)) (fun q y hq k5q _ => zu_nc ?_) (fun y hy => zu_nc (by decide)) (fun y hy => zu_nc (by decide)) (fun x y hx => zu_nc (by omega)) (fun q => zu_nc (by decide)) j2
        by_cases qp : q = p
        · rw [qp]; omega
        · exact ((pl_apart i2 pp hq k5 qp).2.2 k5q).2.1
