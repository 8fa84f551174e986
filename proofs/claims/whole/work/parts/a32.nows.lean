/-! Calls that change what is now: person, set, boat, meet. -/
theorem rl_up {X : zS} {fr nx : Nat} {P : zR0} {c c' m m' : zI} {lc lm : zJ} (h : Rl X fr nx P c lc m lm) (C : ∀ x k, ¬ (1 ≤ x ∧ x ≤ 3) → ¬ iVal x → c' x k = c x k) (M0 : ∀ k, (5 ≤ k ∧ k < 30 ∧ k ≠ 10) ∨ 50 ≤ k → m' 0 k = m 0 k) (M : ∀ x k, (2 ≤ x ∧ x < 20 ∧ x ≠ 5) ∨ x = 31 ∨ x = 32 → m' x k = m x k) (M27 : ∀ k, 42 ≤ k → m' 27 k = m 27 k) (hn : ∀ N, rNow N c m → rNow N c' m') : Rl X fr nx P c' lc m' lm := by
  obtain ⟨hf, hm, a, b, e, N, T, f, g, i, j⟩ := h
  have nv : ∀ x, x < 27 ∨ (32 ≤ x ∧ x < 44) ∨ 74 ≤ x → ¬ iVal x := fun x hx => by unfold iVal; omega
  have C' : ∀ x k, x = 0 ∨ (4 ≤ x ∧ x < 27) ∨ (32 ≤ x ∧ x < 44) ∨ 74 ≤ x → c' x k = c x k := fun x k hx => C x k (by omega) (nv x (by omega))
  refine ⟨hf, iMm_0 (C' _ _ (by decide)) (C' _ _ (by decide)) hm, rTxt_eq (C' _ _ (by decide)) (fun k => C' _ _ (by decide)) (M0 _ (by decide)) (fun k => M _ _ (by decide)) (fun x k x1 x2 => M _ _ (by omega)) a, rAct_eq (fun k => C' _ _ (by decide)) (M0 _ (by decide)) (fun k => M _ _ (by decide)) b, rTap_eq (fun k => C' _ _ (by decide)) (fun k => C' _ _ (by decide)) (fun _ _ _ _ => rfl) (fun k => M _ _ (by decide)) (fun k => M _ _ (by decide)) (fun _ => rfl) e, N, T, hn N f, ?_, rPl_eq (C' _ _ (by decide)) (fun x k hx => C' _ _ (by omega)) (M0 _ (by decide)) (fun x k x1 x2 => M _ _ (by omega)) i, ?_⟩
  · obtain ⟨g1, g2, g3, g4, g5⟩ := g
    refine ⟨by rw [C' _ _ (by decide)]; exact g1, by rw [M0 _ (by decide)]; exact g2, g3, fun p hp => ?_, cPa_at (fun x k x1 x2 => C x k (by omega) (val_pa (p := 0) (by decide) (by omega))) g5⟩
    obtain ⟨cs, w1, w2, w3⟩ := g4 p hp
    exact ⟨cs, w1, xTxt_eq (M _ _ (by decide)) (fun x k x1 x2 _ _ => M _ _ (by omega)) (fun k _ _ => M _ _ (by decide)) w2, cPa_at (fun x k x1 x2 => C x k (by omega) (val_pa (p := p) (by omega) (by omega))) w3⟩
  · refine rImg_eq (Nat.le_refl _) (C' _ _ (by decide)) (fun x k x1 x2 => C' _ _ (by omega)) (fun p k hp hk k3 => C' _ _ ?_) (fun k hk => M0 _ (by omega)) (fun k hk => M27 k hk) (fun x k hx => M _ _ (by omega)) (fun p => M _ _ (by decide)) j
    have := ((i.2.2.1 p hp).1).2.1
    omega
/-- a bit laid -/
def wB (x : Int32) (q s : Int32) : Int32 := (x &&& (((1 : Int32) <<< (q &&& 31)) ^^^ (-1))) ||| (s <<< (q &&& 31))
def wN (w q : Nat) (s : Int32) : Nat := if s = 1 then w ||| 2 ^ q else (w ||| 2 ^ q) ^^^ 2 ^ q
theorem wB_0 : ∀ w : Nat, w < 32 → ∀ q : Nat, q < 5 → wB (Int32.ofNat w) (Int32.ofNat q) 0 = Int32.ofNat (wN w q 0) := by decide +kernel
theorem wB_1 : ∀ w : Nat, w < 32 → ∀ q : Nat, q < 5 → wB (Int32.ofNat w) (Int32.ofNat q) 1 = Int32.ofNat (wN w q 1) := by decide +kernel
theorem wN_0 : ∀ P : Nat, P < 6 → ∀ w : Nat, w < 32 → ∀ q : Nat, q < P → w < 2 ^ P → wN w q 0 < 2 ^ P := by decide +kernel
theorem wN_1 : ∀ P : Nat, P < 6 → ∀ w : Nat, w < 32 → ∀ q : Nat, q < P → w < 2 ^ P → wN w q 1 < 2 ^ P := by decide +kernel
theorem pow_32 : ∀ P : Nat, P < 6 → 2 ^ P ≤ 32 := by decide
theorem wB_of {P w q : Nat} {s : Int32} (hP : P < 6) (hw : w < 2 ^ P) (hq : q < P) (hs : s = 0 ∨ s = 1) : ∃ v, v < 2 ^ P ∧ wB (Int32.ofNat w) (Int32.ofNat q) s = Int32.ofNat v := by
  have h32 := pow_32 P hP
  rcases hs with rfl | rfl
  · exact ⟨_, wN_0 P hP w (by omega) q hq hw, wB_0 w (by omega) q (by omega)⟩
  · exact ⟨_, wN_1 P hP w (by omega) q hq hw, wB_1 w (by omega) q (by omega)⟩
theorem n_01 {a : Int32} : 0 ≤ a ∧ a ≤ 1 ↔ a = 0 ∨ a = 1 := by
  constructor
  · intro ⟨h, h2⟩
    obtain ⟨n, hn, rfl⟩ := n_nat (Int32.not_lt.mpr h)
    have := (n_le (b := 1) hn (by decide)).mp h2
    have : n = 0 ∨ n = 1 := by omega
    rcases this with rfl | rfl
    · exact .inl rfl
    · exact .inr rfl
  · rintro (rfl | rfl) <;> decide
theorem iW_of {m : zI} {w : Nat} (hp : iP m) (e : m 0 1 = Int32.ofNat w) (h : w < 2 ^ mPe m) : iW m := by
  have h32 := pow_32 _ (iP_of hp).2
  have : mW m = w := by unfold mW; rw [e, n_cl (by omega)]
  unfold iW
  rw [this]; exact ⟨e, h⟩
theorem iWt_of {m : zI} {w : Nat} (hp : iP m) (e : m 0 2 = Int32.ofNat w) (h : w < 2 ^ mPe m) : iWt m := by
  have h6 := (iP_of hp).2
  have h32 := pow_32 _ h6
  have : mWn m = w := by
    unfold mWn
    rw [e, (n_msk _ h6).1, and_mask _ h6 w (by omega) h, n_cl (by omega)]
  unfold iWt
  rw [this]; exact ⟨e, h⟩
theorem tri_mono : ∀ p : Nat, p < 5 → sTri p ≤ sTri (p + 1) := by decide
section PERSON
variable {d : Nat} {X : zS} {fr nx : Nat} {P : zR0} {c m : zI} {lc lm : zJ}
theorem t_7 {K : Int32 → zI → zJ → Prop} {a b e : Int32} (h : K (wB a b e) c lc) : TI (d + 1) 7 [.int a, .int b, .int e] (zCS ++ X) (zCR fr nx P) c lc K := TI_of (B_7 _ _ _ h)
theorem t_5 {K : Int32 → zI → zJ → Prop} {a b : Int32} {p : Nat} (hp : p ≤ 5) (h1 : c 1 0 = Int32.ofNat p) (h0 : ¬ ((a = 0 ∨ a = 1) ∧ (b = 0 ∨ b = 1)) → K (-1) c lc) (h5 : (a = 0 ∨ a = 1) ∧ (b = 0 ∨ b = 1) → p = 5 → K (-4) c lc)
    (h : (a = 0 ∨ a = 1) ∧ (b = 0 ∨ b = 1) → p < 5 → K (Int32.ofNat p) (zu (zu (zu c 1 0 (Int32.ofNat (p + 1))) 1 1 (wB (c 1 1) (Int32.ofNat p) a)) 1 2 (wB (c 1 2) (Int32.ofNat p) b)) lc) : TI (d + 2) 5 [.ref 0, .int a, .int b] (zCS ++ X) (zCR fr nx P) c lc K := by
  refine TI_of (B_5 _ _ (t_6 (d := d) ?_))
  by_cases qa : a = 0 ∨ a = 1
  · rw [if_pos qa]
    refine ⟨fun z => absurd z one_ne, fun _ => t_6 (d := d) ?_⟩
    by_cases qb : b = 0 ∨ b = 1
    · rw [if_pos qb]
      refine ⟨fun _ => ⟨fun x => ?_, fun x => h5 ⟨qa, qb⟩ ?_⟩, fun z => absurd one_ne z⟩
      · rw [h1] at x ⊢
        have x := (n_lt (b := 5) (by omega) (by decide)).mp x
        have := h ⟨qa, qb⟩ x
        rw [n_suc]
        refine t_7 (d := d) (t_7 (d := d) ?_)
        exact this
      · rw [h1] at x
        have : ¬ p < 5 := fun z => x ((n_lt (b := 5) (by omega) (by decide)).mpr z)
        omega
    · rw [if_neg qb]
      exact ⟨fun z => absurd rfl z, fun _ => h0 (fun z => qb z.2)⟩
  · rw [if_neg qa]
    exact ⟨fun _ => h0 (fun z => qa z.1), fun z => absurd rfl z⟩
theorem t_156_54 {Q : zQ} {p : Nat} {m0 : zI} (hp : p < 5) (h : ∀ m', (∀ x k, ¬ (x = 0 ∧ k = 0) → m' x k = m0 x k) → m' 0 0 = Int32.ofNat (p + 1) → Q (some (.int (Int32.ofNat p))) m' lm) (hm : ∀ k, sTri p ≤ k → k < 10 → m0 1 k = -1) (h0 : m0 0 0 = Int32.ofNat p) : ∀ (j o : Nat) (m : zI), o + j = p → (∀ x k, m x k = m0 x k) → Wf (d + 2) 156 54 [.ref 0, .retAddr 0, .retAddr 0, .int (Int32.ofNat o)] [] zMS zMR m lm Q
  | 0, o, m, e, hs => by
    obtain rfl : o = p := by omega
    refine B_156_54 _ ⟨fun _ => ?_, fun x => absurd (by rw [hs, h0]; exact Int32.le_refl _) x⟩
    rw [hs, h0, n_suc, n_pred]
    exact h _ (fun x k z => by rw [zu_ne z]; exact hs x k) zu_eq
  | j + 1, o, m, e, hs => by
    refine B_156_54 _ ⟨fun x => ?_, fun _ => ?_⟩
    · rw [hs, h0] at x
      exact absurd ((n_le (by omega) (by omega)).mp x) (by omega)
    · rw [hs, h0]
      obtain ⟨-, -, u3, u4⟩ := pAB p hp o (by omega)
      refine t_158 (d := d) (by omega) hp ⟨n_zin (by omega) (by decide), ?_⟩
      rw [n_suc, n_cl (show sPair o p < 2147483648 by omega)]
      refine t_156_54 hp h hm h0 j (o + 1) _ (by omega) (fun x k => ?_)
      by_cases z : x = 1 ∧ k = sPair o p
      · rw [z.1, z.2, zu_eq, hm _ (by omega) (by omega)]
      · rw [zu_ne z]; exact hs x k
theorem t_156 {K : Int32 → zI → zJ → Prop} {a b : Int32} {p : Nat} (hp : p ≤ 5) (h1 : m 0 0 = Int32.ofNat p) (hm : ∀ k, sTri p ≤ k → k < 10 → m 1 k = -1) (h0 : ¬ ((a = 0 ∨ a = 1) ∧ (b = 0 ∨ b = 1)) → K (-1) m lm) (h5 : (a = 0 ∨ a = 1) ∧ (b = 0 ∨ b = 1) → p = 5 → K (-4) m lm)
    (h : (a = 0 ∨ a = 1) ∧ (b = 0 ∨ b = 1) → p < 5 → ∀ m', (∀ x k, ¬ (x = 0 ∧ k ≤ 2) → m' x k = m x k) → m' 0 0 = Int32.ofNat (p + 1) → m' 0 1 = wB (m 0 1) (Int32.ofNat p) a → m' 0 2 = wB (m 0 2) (Int32.ofNat p) b → K (Int32.ofNat p) m' lm) : TI (d + 3) 156 [.ref 0, .int a, .int b] zMS zMR m lm K := by
  refine TI_of (B_156 _ _ (t_157 (d := d + 1) ?_))
  by_cases qa : 0 ≤ a ∧ a ≤ 1
  · rw [if_pos qa]
    refine ⟨fun z => absurd z one_ne, fun _ => t_157 (d := d + 1) ?_⟩
    by_cases qb : 0 ≤ b ∧ b ≤ 1
    · rw [if_pos qb]
      refine ⟨fun _ => ⟨fun x => ?_, fun x => h5 ⟨n_01.mp qa, n_01.mp qb⟩ ?_⟩, fun z => absurd one_ne z⟩
      · rw [h1] at x ⊢
        have x : ¬ p = 5 := fun z => x (by rw [z]; rfl)
        refine t_156_54 (d := d + 1) (p := p) (m0 := zu (zu m 0 1 (wB (m 0 1) (Int32.ofNat p) a)) 0 2 (wB (m 0 2) (Int32.ofNat p) b)) (by omega) (fun m' f e0 => ?_) (fun k k1 k2 => by rw [zu_nc (by decide), zu_nc (by decide)]; exact hm k k1 k2) (by rw [zu_nk (by decide), zu_nk (by decide)]; exact h1) p 0 _ (by omega) (fun _ _ => rfl)
        refine h ⟨n_01.mp qa, n_01.mp qb⟩ (by omega) m' (fun x k z => by rw [f x k (by omega), zu_ne (by omega), zu_ne (by omega)]) e0 ?_ ?_
        · rw [f 0 1 (by decide), zu_nk (by decide), zu_eq]
        · rw [f 0 2 (by decide), zu_eq]
      · rw [h1] at x
        exact (n_eq (b := 5) (by omega) (by decide)).mp (Decidable.not_not.mp x)
    · rw [if_neg qb]
      exact ⟨fun z => absurd rfl z, fun _ => h0 (fun z => qb (n_01.mpr z.2))⟩
  · rw [if_neg qa]
    exact ⟨fun _ => h0 (fun z => qa (n_01.mpr z.1)), fun z => absurd rfl z⟩
end PERSON
theorem s_person {a b : Int32} : sI 5 156 [.int a, .int b] := by
  intro X fr nx P c lc m lm h
  obtain ⟨cs, hA, hR, hF, hN, hm, hf⟩ := rl_now h
  obtain ⟨q1, q2⟩ := iP_of hN.1
  have e0 : c 1 0 = Int32.ofNat (mPe m) := by rw [hF.1.1, q1]
  refine TG_I (t_5 (d := 38) (p := mPe m) (by omega) e0 (fun z => ?_) (fun z w => ?_) (fun z w => ?_))
  · exact t_156 (d := 37) (by omega) q1 hN.2.2.2.2.2.2 (fun _ => ⟨rfl, h⟩) (fun y => absurd y z) (fun y => absurd y z)
  · exact t_156 (d := 37) (by omega) q1 hN.2.2.2.2.2.2 (fun y => absurd z y) (fun _ _ => ⟨rfl, h⟩) (fun _ y => by omega)
  · refine t_156 (d := 37) (by omega) q1 hN.2.2.2.2.2.2 (fun y => absurd z y) (fun _ y => by omega) (fun _ _ m' f e0 e1 e2 => ⟨rfl, ?_⟩)
    refine rl_up h (fun x k x1 _ => by rw [zu_nc (by omega), zu_nc (by omega), zu_nc (by omega)]) (fun k hk => f 0 k (by omega)) (fun x k hx => f x k (by omega)) (fun k hk => f 27 k (by omega)) (fun N ⟨f1, f2, f3⟩ => ?_)
    obtain ⟨⟨s0, s1, s2, s3, s4, s5⟩, s6, s7, s8⟩ := f1
    obtain ⟨i1, i2, i3, i4, i5, i6, i7⟩ := f2
    have hp' : iP m' := ⟨mPe m + 1, by omega, e0⟩
    have ep : mPe m' = mPe m + 1 := by unfold mPe at *; rw [e0, n_cl (by omega)]
    have pw : 2 ^ mPe m ≤ 2 ^ (mPe m + 1) := Nat.pow_le_pow_right (by decide) (by omega)
    obtain ⟨v1, l1, r1⟩ := wB_of (P := mPe m + 1) (q := mPe m) (s := a) (by omega) (Nat.lt_of_lt_of_le i3.2 pw) (by omega) z.1
    obtain ⟨v2, l2, r2⟩ := wB_of (P := mPe m + 1) (q := mPe m) (s := b) (by omega) (Nat.lt_of_lt_of_le i5.2 pw) (by omega) z.2
    rw [i3.1, r1] at e1
    rw [i5.1, r2] at e2
    refine ⟨⟨⟨?_, ?_, ?_, ?_, ?_, fun k hk => ?_⟩, ?_, ?_, fun k hk => ?_⟩, ⟨hp', ?_, iW_of hp' e1 (by rw [ep]; exact l1), ?_, iWt_of hp' e2 (by rw [ep]; exact l2), iBk_eq (f 0 10 (by omega)) (fun k _ => f 5 k (by omega)) i6, fun k k1 k2 => ?_⟩, ?_⟩
    · rw [zu_nk (by decide), zu_nk (by decide), zu_eq, e0]
    · rw [zu_nk (by decide), zu_eq, e1, s1, i3.1, r1]
    · rw [zu_eq, e2, s2, i5.1, r2]
    · rw [zu_nk (by decide), zu_nk (by decide), zu_nk (by decide), f 0 3 (by omega)]; exact s3
    · rw [zu_nk (by decide), zu_nk (by decide), zu_nk (by decide), f 0 4 (by omega)]; exact s4
    · rw [zu_nc (by decide), zu_nc (by decide), zu_nc (by decide), f 1 k (by omega)]; exact s5 k hk
    · rw [zu_nk (by decide), zu_nk (by decide), zu_nk (by decide), f 0 13 (by omega)]; exact s6
    · rw [zu_nk (by decide), zu_nk (by decide), zu_nk (by decide), f 0 10 (by omega)]; exact s7
    · rw [zu_nc (by decide), zu_nc (by decide), zu_nc (by decide), f 5 k (by omega)]; exact s8 k hk
    · unfold iB; rw [f 0 3 (by omega)]; exact i2
    · have : mCr m' = mCr m := by unfold mCr; rw [f 0 4 (by omega)]
      unfold iCr; rw [f 0 4 (by omega), this]; exact i4
    · rw [f 1 k (by omega)]
      rw [ep] at k1
      exact i7 k (Nat.le_trans (tri_mono _ w) k1) k2
    · unfold rHo; rw [f 0 13 (by omega)]; exact f3
