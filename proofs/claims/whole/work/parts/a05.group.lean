/-! group, cross. -/
theorem grp_tab : ∀ p : Nat, p < 6 → ∀ g : Nat, g < 32 → g < 2 ^ p → Int32.ofNat g &&& (Int32.ofNat (2 ^ p - 1) ^^^ -1) = 0 := by decide +kernel
theorem grp_back {p : Nat} (hp : p < 6) {a : Int32} (h : a &&& (Int32.ofNat (2 ^ p - 1) ^^^ -1) = 0) : ∃ g : Nat, g < 2 ^ p ∧ a = Int32.ofNat g := by
  have pos : 0 < 2 ^ p := Nat.pow_pos (by decide)
  have l32 : 2 ^ p ≤ 2 ^ 5 := Nat.pow_le_pow_right (by decide) (by omega)
  obtain ⟨w, w1, w2⟩ := n_and_lt a pos (Nat.le_trans l32 (by decide))
  have e : Int32.ofNat (2 ^ p) - 1 = Int32.ofNat (2 ^ p - 1) := n_sub (b := 1) pos
  rw [e] at w2
  rw [a_not, w2] at h
  refine ⟨w, w1, ?_⟩
  have : a ^^^ Int32.ofNat w ^^^ Int32.ofNat w = 0 ^^^ Int32.ofNat w := by rw [h]
  rw [Int32.xor_assoc, Int32.xor_self, Int32.xor_zero, Int32.zero_xor] at this
  exact this
section GROUP
variable {d : Nat} {X : zS} {fr nx : Nat} {P : zR0} {cs : List pCl} {c m : zI} {lc : zJ}
theorem t_86 {K : Int32 → zI → zJ → Prop} {a : Int32} (hp : iP m) (hS : cSc 1 c m) (h0 : ¬ mIsG m a → K 0 c lc) (h1 : ∀ g, mIsG m a → a = Int32.ofNat g → g < 32 → g < 2 ^ mPe m → K 1 c lc) : TI (d + 2) 86 [.ref 0, .int a] (zCS ++ X) (zCR fr nx P) c lc K := by
  obtain ⟨q1, q2⟩ := iP_of hp
  have pw := pow_tri _ hp
  have hs : ∀ p : Nat, p < 6 → (1 : Int32) <<< (Int32.ofNat p &&& 31) = Int32.ofNat (2 ^ p) := by decide +kernel
  have e := hs _ q2
  refine TI_of (B_86 a ⟨fun x => h0 (fun z => absurd x (Int32.not_le.mpr z.1)), fun x => t_67 (d := d) (.inl rfl) hp hS.1 ⟨fun y => h0 (fun z => ?_), fun y => ?_⟩⟩)
  · obtain ⟨g, g1, g2, g3, rfl⟩ := mIsG_nat hp z
    exact y (grp_tab _ q2 g g3 g2)
  · obtain ⟨g, g2, rfl⟩ := grp_back q2 (Decidable.not_not.mp y)
    have x := Int32.not_le.mp x
    refine h1 g ⟨x, ?_⟩ rfl (by omega) g2
    rw [q1, e]
    exact (n_lt (by omega) (by omega)).mpr g2
/-- group -/
theorem t_85 {K : Int32 → zI → zJ → Prop} {a b : Int32} {n : Nat} (hA : iA n m (tkOf cs)) (hR : cRu c m cs) (hS : cSc 1 c m)
    (h0 : ¬ (0 ≤ b ∧ b ≤ 1) → K (-10001) c lc) (h1 : (0 ≤ b ∧ b ≤ 1) → ¬ mIsG m a → K (-10002) c lc)
    (h2 : ∀ g : Nat, (0 ≤ b ∧ b ≤ 1) → ¬ b = 1 → a = Int32.ofNat g → g < 32 → mIsG m a → K (if mGoes (mLook m (tkOf cs)) g then 1 else 0) c lc)
    (h3 : ∀ (g : Nat) c', b = 1 → a = Int32.ofNat g → g < 32 → mIsG m a → mA (ruC m + 4) c c' → K (mWor m (tkOf cs) a) c' lc) : TI (d + 5) 85 [.ref 0, .int a, .int b] (zCS ++ X) (zCR fr nx P) c lc K := by
  refine TI_of (B_85 a b ⟨fun x => h0 (fun z => absurd x (Int32.not_lt.mpr z.1)), fun x => ⟨fun y => ?_, fun y => h0 (fun z => y z.2)⟩⟩)
  have ok : 0 ≤ b ∧ b ≤ 1 := ⟨Int32.not_lt.mp x, y⟩
  refine t_86 (d := d + 2) hA.2.1 hS (fun q => ⟨fun z => absurd rfl z, fun _ => h1 ok q⟩) (fun g q eg g32 gp => ⟨fun _ => ?_, fun z => absurd (show (1 : Int32) ≠ 0 by decide) z⟩)
  refine ⟨fun z => ?_, fun z => ?_⟩
  · have b1 : b = 1 := by
      rcases n_012 ok.1 (Int32.le_trans ok.2 (by decide)) with w | w | w
      · exact absurd w z
      · exact w
      · rw [w] at y; exact absurd y (by decide)
    have hi := (ruC_of hR.2.1).1
    refine t_11 (d := d + 3) hR ⟨by omega, fun c3 e3 => ?_⟩
    obtain rfl : c3 = ruC m := by omega
    have tgt : ztg (zCS ++ X) 85 [.ref (ruC m), .int a, .ref 1] = some 87 := by
      rcases hi with q | q | q | q | q | q | q <;> rw [q] <;> rfl
    refine ⟨87, tgt, show 3 ≤ _ by decide, ?_⟩
    subst eg
    refine t_87 (d := d + 1) hi (.inl rfl) hS hA.2.1 hR.2.2.2 hR.2.2.1 g32 gp (fun c' A => ?_)
    have := h3 g c' b1 rfl g32 q A
    rw [hold_wor hR.2.1 hR.2.2.1] at this
    exact this
  · have z := Decidable.not_not.mp z
    have hA2 := iA_t (mLook_t m (tkOf cs)) hA
    have hR2 := cRu_look (tkOf cs) hR
    have hS2 := cSc_look (tkOf cs) hS
    refine t_64 (d := d + 1) (.inl rfl) hR2 hS2 hA2.2.1 hA2.2.2.2.1 hA2.2.2.2.2.1 ?_
    have hk := h2 g ok (by rw [z]; decide) eg g32 q
    subst eg
    have hop := op_iff hA2 (mLook_l m (tkOf cs)) hR2.2.1 hR2.2.2.1 g32
    have g1 : 1 ≤ g := by
      have := (n_lt (a := 0) (by decide) (by omega)).mp q.1
      omega
    show K _ c lc
    by_cases w : mGoes (mLook m (tkOf cs)) g
    · rw [if_pos w] at hk
      have : (Int32.ofNat (bN (opP (mLook m (tkOf cs)) cs) 32) >>> (Int32.ofNat g &&& 31)) &&& 1 = 1 := by
        rw [n_bit1 _ _ g32, bN_bit, decide_eq_true_iff]
        exact ⟨g32, hop.mpr ⟨g1, w⟩⟩
      rw [this]; exact hk
    · rw [if_neg w] at hk
      have : (Int32.ofNat (bN (opP (mLook m (tkOf cs)) cs) 32) >>> (Int32.ofNat g &&& 31)) &&& 1 = 0 := by
        rw [n_bit0 _ _ g32, bN_bit, decide_eq_false_iff_not]
        exact fun v => w (hop.mp v.2).2
      rw [this]; exact hk
/-- what a crossing writes -/
def fCr (c c' : zI) : Prop := (∀ x k, x ≠ 1 → x ≠ 2 → ¬ iVal x → c' x k = c x k) ∧ ∀ k, 5 ≤ k → c' 1 k = c 1 k
/-- cross -/
theorem t_89 {K : Int32 → zI → zJ → Prop} {a : Int32} (hA : iA 9999 m (tkOf cs)) (hR : cRu c m cs) (hS : cSc 1 c m)
    (h0 : ¬ mIsG m a → K (-10002) c lc)
    (h1 : ∀ g : Nat, a = Int32.ofNat g → g < 32 → mIsG m a → ¬ (mGoes (mLook m (tkOf cs)) g ∧ ¬ m 0 4 = 9999) → K (-10003) c lc)
    (h2 : ∀ (g : Nat) c', a = Int32.ofNat g → g < 32 → mIsG m a → mGoes (mLook m (tkOf cs)) g → ¬ m 0 4 = 9999 → cSc 1 c' (mGo m g) → fCr c c' → K (mWor m (tkOf cs) a) c' lc) : TI (d + 6) 89 [.ref 0, .int a] (zCS ++ X) (zCR fr nx P) c lc K := by
  refine TI_of (B_89 a (t_86 (d := d + 3) hA.2.1 hS (fun q => ⟨fun z => absurd rfl z, fun _ => h0 q⟩) (fun g q eg g32 gp => ⟨fun _ => ?_, fun z => absurd (show (1 : Int32) ≠ 0 by decide) z⟩)))
  have hA2 := iA_t (mLook_t m (tkOf cs)) hA
  have hR2 := cRu_look (tkOf cs) hR
  have hS2 := cSc_look (tkOf cs) hS
  refine t_64 (d := d + 2) (.inl rfl) hR2 hS2 hA2.2.1 hA2.2.2.2.1 hA2.2.2.2.2.1 ?_
  have hk1 := h1 g eg g32 q
  have hk2 := fun c' => h2 g c' eg g32 q
  subst eg
  have hop := op_iff hA2 (mLook_l m (tkOf cs)) hR2.2.1 hR2.2.2.1 g32
  have g1 : 1 ≤ g := by
    have := (n_lt (a := 0) (by decide) (by omega)).mp q.1
    omega
  have a7 := hA.2.2.2.2.2.2
  have e4 : c 1 4 = Int32.ofNat (mCr m) := by rw [hS.2.2.2.2.1, a7.1]
  have c9 := a7.2
  have hi := (ruC_of hR.2.1).1
  refine ⟨fun x => ?_, fun x => ⟨fun y => ?_, fun y => ?_⟩⟩
  · rw [n_bit0 _ _ g32, bN_bit, decide_eq_false_iff_not] at x
    exact hk1 (fun w => x ⟨g32, hop.mpr ⟨g1, w.1⟩⟩)
  · rw [n_bit0 _ _ g32, bN_bit, decide_eq_false_iff_not] at x
    have w := (hop.mp (Decidable.not_not.mp x).2).2
    rw [e4] at y
    have y := (n_lt (b := 9999) (by omega) (by decide)).mp y
    have n9 : ¬ m 0 4 = 9999 := fun z => by
      rw [a7.1] at z
      have := (n_eq (b := 9999) (by omega) (by decide)).mp z
      omega
    refine t_11 (d := d + 4) hR ⟨by omega, fun c4 e4 => ?_⟩
    obtain rfl : c4 = ruC m := by omega
    have tgt : ztg (zCS ++ X) 85 [.ref (ruC m), .int (Int32.ofNat g), .ref 1] = some 87 := by
      rcases hi with q | q | q | q | q | q | q <;> rw [q] <;> rfl
    refine ⟨87, tgt, show 3 ≤ _ by decide, t_87 (d := d + 2) hi (.inl rfl) hS hA.2.1 hR.2.2.2 hR.2.2.1 g32 gp (fun c2 A2 => ?_)⟩
    have hS3 : cSc 1 c2 m := cSc_eq (fun k _ => A2 _ _ (by generalize ruC m = r at hi; omega)) (fun k _ => A2 _ _ (by generalize ruC m = r at hi; omega)) hS
    have pw := pow_tri _ hA.2.1
    refine t_90 (d := d + 2) (.inl rfl) hS3 hA.2.2.2.1 hA.2.2.2.2.1 (by have := hA.2.2.2.2.1.2; omega) g32 ?_ (fun c3 S3 A3 k3 => ?_)
    · have := w.2.1
      rw [mLook_c m _ (by decide) (by decide), mLook_c m _ (by decide) (by decide)] at this
      exact this
    · rw [← hold_wor hR.2.1 hR.2.2.1]
      refine hk2 c3 w n9 S3 ⟨fun x k u v z => ?_, fun k hk => ?_⟩
      · rw [A3 x k (by simp only [List.mem_cons, List.not_mem_nil, or_false]; omega), A2 x k (fun y => z (by rw [y]; exact val_of hi))]
      · rw [k3 k hk, A2 1 k (by generalize ruC m = r at hi; omega)]
  · refine hk1 (fun w => y ?_)
    rw [e4]
    have n9 : mCr m ≠ 9999 := fun z => w.2 (by rw [a7.1, z]; rfl)
    have := a7.2
    exact (n_lt (b := 9999) (by omega) (by decide)).mpr (by omega)
end GROUP
