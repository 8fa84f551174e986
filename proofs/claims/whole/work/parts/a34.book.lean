/-! book, cross, count, feed, parish. -/
section BOOKS
variable {d : Nat} {X : zS} {fr nx : Nat} {P : zR0} {c m : zI} {lc lm : zJ}
theorem n_lt1 {a : Int32} : ¬ a < 1 ↔ 1 ≤ a := Int32.not_lt
theorem n_lt32 {b : Int32} : b < 32 ↔ b ≤ 31 := by
  rw [Int32.le_iff_toInt_le, Int32.lt_iff_toInt_lt]
  have e1 : (32 : Int32).toInt = 32 := rfl
  have e2 : (31 : Int32).toInt = 31 := rfl
  omega
theorem n_1to31 {a : Int32} (h : 1 ≤ a ∧ a ≤ 31) : ∃ g : Nat, 1 ≤ g ∧ g < 32 ∧ a = Int32.ofNat g := by
  obtain ⟨n, hn, rfl⟩ := n_nat (x := a) (Int32.not_lt.mpr (Int32.le_trans (by decide) h.1))
  have h1 := (n_le (a := 1) (by decide) hn).mp h.1
  have h2 := (n_le (b := 31) hn (by decide)).mp h.2
  exact ⟨n, h1, by omega, rfl⟩
theorem t_121 {K : Int32 → zI → zJ → Prop} {a : Int32} {n : Nat} (hn : n ≤ 12) (h8 : c 1 8 = Int32.ofNat n) (hm : a = -1 → K 0 (zu c 1 8 0) lc) (hb : ¬ a = -1 → ¬ (1 ≤ a ∧ a ≤ 31) → K (-2) c lc) (hf : ¬ a = -1 → (1 ≤ a ∧ a ≤ 31) → n = 12 → K (-4) c lc)
    (h : ¬ a = -1 → (1 ≤ a ∧ a ≤ 31) → n < 12 → K (Int32.ofNat (n + 1)) (zu (zu c 3 n a) 1 8 (Int32.ofNat (n + 1))) lc) : TI (d + 1) 121 [.ref 0, .int a] (zCS ++ X) (zCR fr nx P) c lc K := by
  refine TI_of (B_121 _ ⟨fun x => ⟨fun y => hb x (fun z => absurd y (Int32.not_lt.mpr z.1)), fun y => ⟨fun z => ⟨fun w => ?_, fun w => ?_⟩, fun z => hb x (fun w => z (n_lt32.mpr w.2))⟩⟩, fun x => hm (Decidable.not_not.mp x)⟩)
  · rw [h8] at w ⊢
    have w := (n_lt (b := 12) (by omega) (by decide)).mp w
    have := h x ⟨Int32.not_lt.mp y, n_lt32.mp z⟩ w
    rw [n_cl (show n < 2147483648 by omega), n_suc]
    exact ⟨n_zin w (by decide), this⟩
  · rw [h8] at w
    refine hf x ⟨Int32.not_lt.mp y, n_lt32.mp z⟩ (Nat.le_antisymm hn (Nat.le_of_not_lt (fun v => w ((n_lt (b := 12) (by omega) (by decide)).mpr v))))
theorem t_238 {K : Int32 → zI → zJ → Prop} {a : Int32} {n : Nat} (hn : n ≤ 12) (h8 : m 0 10 = Int32.ofNat n) (hm : a = -1 → K 0 (zu m 0 10 0) lm) (hb : ¬ a = -1 → ¬ (1 ≤ a ∧ a ≤ 31) → K (-2) m lm) (hf : ¬ a = -1 → (1 ≤ a ∧ a ≤ 31) → n = 12 → K (-4) m lm)
    (h : ¬ a = -1 → (1 ≤ a ∧ a ≤ 31) → n < 12 → K (Int32.ofNat (n + 1)) (zu (zu m 5 n a) 0 10 (Int32.ofNat (n + 1))) lm) : TI (d + 2) 238 [.ref 0, .int a] zMS zMR m lm K := by
  refine TI_of (B_238 _ ⟨fun x => t_157 (d := d) ?_, fun x => hm (Decidable.not_not.mp x)⟩)
  by_cases q : 1 ≤ a ∧ a ≤ 31
  · rw [if_pos q]
    refine ⟨fun _ => ⟨fun w => ?_, fun w => ?_⟩, fun z => absurd one_ne z⟩
    · rw [h8] at w ⊢
      have w : ¬ n = 12 := fun z => w (by rw [z]; rfl)
      have := h x q (by omega)
      rw [n_cl (show n < 2147483648 by omega), n_suc]
      exact ⟨n_zin (by omega) (by decide), this⟩
    · rw [h8] at w
      exact hf x q ((n_eq (b := 12) (by omega) (by decide)).mp (Decidable.not_not.mp w))
  · rw [if_neg q]
    exact ⟨fun z => absurd rfl z, fun _ => hb x q⟩
theorem iBk_put {m m' : zI} {n g : Nat} (h : iBk m) (hn : m 0 10 = Int32.ofNat n) (h12 : n < 12) (hg : 1 ≤ g ∧ g < 32) (e : m' 0 10 = Int32.ofNat (n + 1)) (e5 : ∀ k, m' 5 k = if k = n then Int32.ofNat g else m 5 k) : iBk m' := by
  obtain ⟨⟨a, b⟩, f⟩ := h
  have en : mBkN m = n := by unfold mBkN; rw [hn, n_cl (by omega)]
  have en' : mBkN m' = n + 1 := by unfold mBkN; rw [e, n_cl (by omega)]
  refine ⟨⟨by rw [en']; exact e, by omega⟩, fun k hk => ?_⟩
  obtain ⟨⟨f1, f2⟩, f3⟩ := f k hk
  have ek : mBk m' k = if k = n then g else mBk m k := by
    unfold mBk
    rw [e5]
    split
    · rw [n_cl (by omega)]
    · rfl
  rw [en', ek, e5]
  by_cases q : k = n
  · rw [if_pos q, if_pos q]
    exact ⟨⟨rfl, hg.2⟩, fun _ => hg.1⟩
  · rw [if_neg q, if_neg q]
    exact ⟨⟨f1, f2⟩, fun z => f3 (by omega)⟩
theorem iBk_nil {m m' : zI} (h : iBk m) (e : m' 0 10 = 0) (e5 : ∀ k, m' 5 k = m 5 k) : iBk m' := by
  obtain ⟨⟨a, b⟩, f⟩ := h
  have en' : mBkN m' = 0 := by unfold mBkN; rw [e]; rfl
  refine ⟨⟨by rw [en']; exact e, by omega⟩, fun k hk => ?_⟩
  obtain ⟨⟨f1, f2⟩, f3⟩ := f k hk
  have ek : mBk m' k = mBk m k := by unfold mBk; rw [e5]
  rw [en', ek, e5]
  exact ⟨⟨f1, f2⟩, fun z => absurd z (Nat.not_lt_zero _)⟩
end BOOKS
theorem s_book {a : Int32} : sI 121 238 [.int a] := by
  intro X fr nx P c lc m lm h
  obtain ⟨cs, hA, hR, hF, hN, hm, hf⟩ := rl_now h
  obtain ⟨⟨s0, s1, s2, s3, s4, s5⟩, s6, s7, s8⟩ := hF
  obtain ⟨i1, i2, i3, i4, i5, i6, i7⟩ := hN
  obtain ⟨b1, b2⟩ := i6.1
  have e8 : c 1 8 = Int32.ofNat (mBkN m) := by rw [s7, b1]
  refine TG_I (t_121 (d := 39) b2 e8 (fun z => ?_) (fun z w => ?_) (fun z w v => ?_) (fun z w v => ?_))
  · refine t_238 (d := 38) b2 b1 (fun _ => ⟨rfl, ?_⟩) (fun y => absurd z y) (fun y => absurd z y) (fun y => absurd z y)
    refine rl_up h (fun x k x1 _ => zu_nc (by omega)) (fun k hk => zu_nk (by omega)) (fun x k hx => zu_nc (by omega)) (fun k hk => zu_nc (by decide)) (fun N ⟨f1, f2, f3⟩ => ⟨⟨⟨?_, ?_, ?_, ?_, ?_, fun k hk => ?_⟩, ?_, ?_, fun k hk => ?_⟩, ⟨i1, i2, i3, i4, i5, iBk_nil i6 zu_eq (fun k => zu_nc (by decide)), i7⟩, f3⟩)
    · rw [zu_nk (by decide), zu_nk (by decide)]; exact s0
    · rw [zu_nk (by decide), zu_nk (by decide)]; exact s1
    · rw [zu_nk (by decide), zu_nk (by decide)]; exact s2
    · rw [zu_nk (by decide), zu_nk (by decide)]; exact s3
    · rw [zu_nk (by decide), zu_nk (by decide)]; exact s4
    · rw [zu_nc (by decide), zu_nc (by decide)]; exact s5 k hk
    · rw [zu_nk (by decide), zu_nk (by decide)]; exact s6
    · rw [zu_eq, zu_eq]
    · rw [zu_nc (by decide), zu_nc (by decide)]; exact s8 k hk
  · exact t_238 (d := 38) b2 b1 (fun y => absurd y z) (fun _ _ => ⟨rfl, h⟩) (fun _ y => absurd y w) (fun _ y => absurd y w)
  · exact t_238 (d := 38) b2 b1 (fun y => absurd y z) (fun _ y => absurd w y) (fun _ _ _ => ⟨rfl, h⟩) (fun _ _ y => by omega)
  · refine t_238 (d := 38) b2 b1 (fun y => absurd y z) (fun _ y => absurd w y) (fun _ _ y => by omega) (fun _ _ _ => ⟨rfl, ?_⟩)
    obtain ⟨g, g1, g2, rfl⟩ := n_1to31 w
    have e5 : ∀ k, zu (zu m 5 (mBkN m) (Int32.ofNat g)) 0 10 (Int32.ofNat (mBkN m + 1)) 5 k = if k = mBkN m then Int32.ofNat g else m 5 k := fun k => by
      rw [zu_nc (by decide)]
      by_cases q : k = mBkN m
      · rw [if_pos q, q, zu_eq]
      · rw [if_neg q, zu_nk q]
    refine rl_up h (fun x k x1 _ => by rw [zu_nc (by omega), zu_nc (by omega)]) (fun k hk => by rw [zu_nk (by omega), zu_nc (by decide)]) (fun x k hx => by rw [zu_nc (by omega), zu_nc (by omega)]) (fun k hk => by rw [zu_nc (by decide), zu_nc (by decide)]) (fun N ⟨f1, f2, f3⟩ => ⟨⟨⟨?_, ?_, ?_, ?_, ?_, fun k hk => ?_⟩, ?_, ?_, fun k hk => ?_⟩, ⟨?_, ?_, ?_, ?_, ?_, iBk_put i6 b1 v ⟨g1, g2⟩ zu_eq e5, ?_⟩, ?_⟩)
    · rw [zu_nk (by decide), zu_nc (by decide), zu_nk (by decide), zu_nc (by decide)]; exact s0
    · rw [zu_nk (by decide), zu_nc (by decide), zu_nk (by decide), zu_nc (by decide)]; exact s1
    · rw [zu_nk (by decide), zu_nc (by decide), zu_nk (by decide), zu_nc (by decide)]; exact s2
    · rw [zu_nk (by decide), zu_nc (by decide), zu_nk (by decide), zu_nc (by decide)]; exact s3
    · rw [zu_nk (by decide), zu_nc (by decide), zu_nk (by decide), zu_nc (by decide)]; exact s4
    · rw [zu_nc (by decide), zu_nc (by decide), zu_nc (by decide), zu_nc (by decide)]; exact s5 k hk
    · rw [zu_nk (by decide), zu_nc (by decide), zu_nk (by decide), zu_nc (by decide)]; exact s6
    · rw [zu_eq, zu_eq]
    · rw [e5, zu_nc (by decide)]
      by_cases q : k = mBkN m
      · rw [if_pos q, q, zu_eq]
      · rw [if_neg q, zu_nk q]; exact s8 k hk
    · exact i1
    · exact i2
    · exact i3
    · exact i4
    · exact i5
    · exact i7
    · exact f3
theorem s_cross {a : Int32} : sI 89 199 [.int a] := by
  intro X fr nx P c lc m lm h
  obtain ⟨cs, hA, hR, hF, hN, hm, hf⟩ := rl_now h
  refine TG_I (t_89 (d := 34) hA hR hF.1 (fun ng => ?_) (fun g ea g32 ig no => ?_) (fun g c' ea g32 ig go n9 S' f => ?_))
  · exact t_199 (d := 34) hA.1 hA.2.1 hA.2.2.1 (fun _ => ⟨rfl, h⟩) (fun _ _ _ _ ig => absurd ig ng) (fun _ _ _ _ _ ig => absurd ig ng)
  · refine t_199 (d := 34) hA.1 hA.2.1 hA.2.2.1 (fun ng => absurd ig ng) (fun g' m1 _ _ _ g1 _ => ⟨rfl, rl_q h hf hm (fC_rfl c lc) (iG_t g1) (fun _ => rfl)⟩) (fun g' m1 m2 ea' g32' _ g1 go' n9 _ => absurd ⟨?_, n9⟩ no)
    obtain rfl := n_inj32 ea ea' g32 g32'
    exact (mGoes_e (mLook_e (iG_t g1) (iL_of g1)) g32).mp go'
  · refine t_199 (d := 34) hA.1 hA.2.1 hA.2.2.1 (fun ng => absurd ig ng) (fun g' m1 ea' g32' _ g1 no => absurd ⟨(by obtain rfl := n_inj32 ea ea' g32 g32'; exact (mGoes_e (mLook_e (iG_t g1) (iL_of g1)) g32).mpr go), n9⟩ no) (fun g' m1 m2 ea' g32' _ g1 go' _ g2 => ⟨rfl, ?_⟩)
    · obtain rfl := n_inj32 ea ea' g32 g32'
      have t2 : mT (mGo m g) m2 := (mGo_t (iG_t g1) g).trans (mAs.t g2 (by decide))
      have gp : g < 2 ^ mPe m := mGoes_lt (iL_c (iA_t (mLook_t m (tkOf cs)) hA).2.1 (mLook_l m (tkOf cs))) g32 go
      have hA2 := iA_go (by decide) gp hA
      have A2 : ∀ k, k < 30 ∨ 50 ≤ k → m2 0 k = mGo m g 0 k := fun k hk => t2.f (by unfold mScr; simp only [List.mem_cons, List.not_mem_nil, or_false]; omega)
      have A3 : ∀ x k, (1 ≤ x ∧ x < 20) ∨ x = 31 ∨ x = 32 → m2 x k = mGo m g x k := fun x k hx => t2.at (by simp only [List.mem_cons, List.not_mem_nil, or_false]; omega)
      have G0 : ∀ k, 5 ≤ k ∨ k = 0 ∨ k = 2 → mGo m g 0 k = m 0 k := fun k hk => mGo_0 m g k (by omega)
      refine rl_up h (fun x k x1 x2 => f.1 x k (by omega) (by omega) x2) (fun k hk => by rw [A2 k (by omega), G0 k (by omega)]) (fun x k hx => by rw [A3 x k (by omega), mGo_c m g x k (by omega)]) (fun k hk => by rw [t2.i hk, mGo_c m g _ _ (by decide)]) (fun N ⟨f1, f2, f3⟩ => ?_)
      obtain ⟨s0, s6, s7, s8⟩ := f1
      obtain ⟨i1, i2, i3, i4, i5, i6, i7⟩ := f2
      obtain ⟨j1, j2, j3, j4, j5, j6, j7⟩ := hA2
      have hg : iNw (mGo m g) := by
        refine ⟨j2, j4, j5, ?_, ?_, iBk_eq (G0 10 (by decide)) (fun k _ => mGo_c m g 5 k (by decide)) i6, fun k k1 k2 => ?_⟩
        · refine ⟨j7.1, ?_⟩
          have e4 : mGo m g 0 4 = Int32.ofNat (mCr m + 1) := by rw [mGo_4, i4.1, n_suc]
          have i42 := i4.2
          have e : mCr (mGo m g) = mCr m + 1 := by
            have q : mCr (mGo m g) = (Int32.ofNat (mCr m + 1)).toNatClampNeg := by rw [← e4]; rfl
            rw [q, n_cl (by omega)]
          have : ¬ mCr m = 9999 := fun w => n9 (by rw [i4.1, w]; rfl)
          have := i4.2
          omega
        · refine iWt_of j2 (w := mWn m) (by rw [G0 2 (by decide)]; exact i5.1) ?_
          rw [mPe_u (mGo_u m g)]; exact i5.2
        · rw [mPe_u (mGo_u m g)] at k1
          unfold mGo
          rw [if_pos rfl, if_neg]
          · exact i7 k k1 k2
          · intro w
            have w2 := w.2
            rw [(gpN_ok g g32).1, n_bit _ _ (by omega)] at w2
            have : (gpN g).testBit k = true := Decidable.byContradiction fun y => by rw [if_neg y] at w2; exact absurd w2 (by decide)
            have := gp_tri _ (iP_of i1).2 g g32 k k2 gp this
            omega
      refine ⟨⟨cSc_m (fun k hk => A2 k (by omega)) (fun k hk => A3 1 k (by decide)) S', ?_, ?_, fun k hk => ?_⟩, iNw_eq (fun k hk => A2 k (by omega)) (fun k _ => A3 1 k (by decide)) (fun k _ => A3 5 k (by decide)) hg, ?_⟩
      · rw [f.2 6 (by decide), A2 13 (by decide), G0 13 (by decide)]; exact s6
      · rw [f.2 8 (by decide), A2 10 (by decide), G0 10 (by decide)]; exact s7
      · rw [f.1 3 k (by decide) (by decide) (by unfold iVal; omega), A3 5 k (by decide), mGo_c m g 5 k (by decide)]; exact s8 k hk
      · unfold rHo; rw [A2 13 (by decide), G0 13 (by decide)]; exact f3
theorem s_count {a : Int32} : sI 149 252 [.int a] := by
  intro X fr nx P c lc m lm h
  have h' := h
  obtain ⟨hf, hm, tx, ac, tp, N, T, f, g, i, j⟩ := h'
  obtain ⟨_, L, hL, hL2⟩ := tx
  obtain ⟨l, l20, hl, hl2⟩ := ac
  refine TG_I (d := 40) (TI_of (B_149 (d := 39) _ ⟨fun x => ?_, fun x0 => ⟨fun x => ?_, fun x1 => ⟨fun x => ?_, fun x2 => ⟨fun x => ?_, fun x3 => ⟨fun x => ?_, fun x4 => ⟨fun x => ⟨by decide, ?_⟩, fun x5 => ?_⟩⟩⟩⟩⟩⟩))
  · subst x
    exact TI_of (B_252 (d := 39) _ ⟨fun _ => ⟨f.1.1.1, h⟩, fun y => absurd rfl y⟩)
  · subst x
    exact TI_of (B_252 (d := 39) _ ⟨fun y => absurd y (by decide), fun _ => ⟨fun _ => ⟨by rw [g.1, g.2.1], h⟩, fun y => absurd rfl y⟩⟩)
  · subst x
    exact TI_of (B_252 (d := 39) _ ⟨fun y => absurd y (by decide), fun _ => ⟨fun y => absurd y (by decide), fun _ => ⟨fun _ => ⟨i.2.1, h⟩, fun y => absurd rfl y⟩⟩⟩)
  · subst x
    exact TI_of (B_252 (d := 39) _ ⟨fun y => absurd y (by decide), fun _ => ⟨fun y => absurd y (by decide), fun _ => ⟨fun y => absurd y (by decide), fun _ => ⟨fun _ => ⟨f.1.2.2.1, h⟩, fun y => absurd rfl y⟩⟩⟩⟩)
  · subst x
    exact TI_of (B_252 (d := 39) _ ⟨fun y => absurd y (by decide), fun _ => ⟨fun y => absurd y (by decide), fun _ => ⟨fun y => absurd y (by decide), fun _ => ⟨fun y => absurd y (by decide), fun _ => ⟨fun _ => ⟨by rw [hL.2.1, hL2.2.1], h⟩, fun y => absurd rfl y⟩⟩⟩⟩⟩)
  · subst x
    exact TI_of (B_252 (d := 39) _ ⟨fun y => absurd y (by decide), fun _ => ⟨fun y => absurd y (by decide), fun _ => ⟨fun y => absurd y (by decide), fun _ => ⟨fun y => absurd y (by decide), fun _ => ⟨fun y => absurd y (by decide), fun _ => ⟨fun _ => ⟨by rw [hl.1, hl2.1], h⟩, fun y => absurd rfl y⟩⟩⟩⟩⟩⟩)
  · exact TI_of (B_252 (d := 39) _ ⟨fun y => absurd y x0, fun _ => ⟨fun y => absurd y x1, fun _ => ⟨fun y => absurd y x2, fun _ => ⟨fun y => absurd y x3, fun _ => ⟨fun y => absurd y x4, fun _ => ⟨fun y => absurd y x5, fun _ => ⟨rfl, h⟩⟩⟩⟩⟩⟩⟩)
