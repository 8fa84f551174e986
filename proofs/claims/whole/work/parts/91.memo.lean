/-! The class's longest rows. -/
theorem pcN_or {k p : Nat} (h : p &&& k = 0) : ∀ n, pcN (k ||| p) n = pcN k n + pcN p n
  | 0 => rfl
  | n + 1 => by
    have ih := pcN_or h n
    have hb : (p.testBit n && k.testBit n) = false := by rw [← Nat.testBit_and, h]; exact Nat.zero_testBit n
    rw [pcN, pcN, pcN, ih, Nat.testBit_or]
    generalize k.testBit n = x at hb ⊢
    generalize p.testBit n = y at hb ⊢
    revert hb
    cases x <;> cases y <;> intro hb
    · rfl
    · show _ + _ + 1 = _ + 0 + (_ + 1)
      omega
    · show _ + _ + 1 = _ + 1 + (_ + 0)
      omega
    · exact absurd hb (by decide)
theorem pcN_le (x : Nat) : ∀ n, pcN x n ≤ n
  | 0 => Nat.le_refl 0
  | n + 1 => by
    have ih := pcN_le x n
    rw [pcN]
    split <;> omega
/-- open pairs -/
def opN (k : Nat) : Nat := 10 - pcN k 10
theorem opN_le (k : Nat) : opN k ≤ 10 := by unfold opN; exact Nat.sub_le _ _
theorem gp_two : ∀ g : Nat, g < 32 → 2 ≤ oN g → 0 < pcN (gpN g) 10 ∧ 0 < gpN g := by decide +kernel
theorem opN_step {k g : Nat} (hg : g < 32) (h2 : 2 ≤ oN g) (h : gpN g &&& k = 0) : opN (k ||| gpN g) < opN k := by
  have a := pcN_or h 10
  have b := (gp_two g hg h2).1
  have e := pcN_le (k ||| gpN g) 10
  unfold opN
  rw [a] at e ⊢
  revert e b
  generalize pcN k 10 = x
  generalize pcN (gpN g) 10 = y
  intro b e
  omega
abbrev cCan (lo hi k h g : Nat) : Prop := 3 ≤ g ∧ gSub g h ∧ gpN g &&& k = 0 ∧ lo ≤ oN g ∧ oN g ≤ hi
def cNx (h g : Nat) : Nat := (31 ^^^ h) ||| g
def lcOf (lo hi : Nat) (f : Nat → Nat → Nat) (k h : Nat) : Nat → Nat
  | 0 => 0
  | g + 1 => if cCan lo hi k h g then (if lcOf lo hi f k h g < 1 + f (k ||| gpN g) (cNx h g) then 1 + f (k ||| gpN g) (cNx h g) else lcOf lo hi f k h g) else lcOf lo hi f k h g
def LCf (lo hi : Nat) : Nat → Nat → Nat → Nat
  | 0, _, _ => 0
  | f + 1, k, h => lcOf lo hi (LCf lo hi f) k h 32
def LC (lo hi k h : Nat) : Nat := LCf lo hi 11 k h
theorem lcOf_congr {lo hi : Nat} {f f' : Nat → Nat → Nat} {k h : Nat} : ∀ n, (∀ g, g < n → cCan lo hi k h g → f (k ||| gpN g) (cNx h g) = f' (k ||| gpN g) (cNx h g)) → lcOf lo hi f k h n = lcOf lo hi f' k h n
  | 0, _ => rfl
  | n + 1, q => by
    have ih := lcOf_congr n (fun g hg => q g (by omega))
    rw [lcOf, lcOf, ih]
    by_cases z : cCan lo hi k h n
    · rw [if_pos z, if_pos z, q n (by omega) z]
    · rw [if_neg z, if_neg z]
theorem LCf_stable {lo hi : Nat} (h2 : 2 ≤ lo) : ∀ (f f' k h : Nat), opN k < f → opN k < f' → LCf lo hi f k h = LCf lo hi f' k h
  | 0, _, k, _, q, _ => absurd q (Nat.not_lt_zero _)
  | _ + 1, 0, k, _, _, q => absurd q (Nat.not_lt_zero _)
  | f + 1, f' + 1, k, h, q, q' => by
    rw [LCf, LCf]
    refine lcOf_congr 32 (fun g hg z => ?_)
    have s := opN_step hg (Nat.le_trans h2 z.2.2.2.1) z.2.2.1
    exact LCf_stable h2 f f' _ _ (by omega) (by omega)
theorem LC_eq {lo hi : Nat} (h2 : 2 ≤ lo) (k h : Nat) : LC lo hi k h = lcOf lo hi (LC lo hi) k h 32 := by
  rw [LC, LCf]
  refine lcOf_congr 32 (fun g hg z => ?_)
  have s := opN_step hg (Nat.le_trans h2 z.2.2.2.1) z.2.2.1
  have l := opN_le k
  exact LCf_stable h2 _ _ _ _ (by omega) (by omega)
theorem lcOf_le {lo hi n : Nat} {f : Nat → Nat → Nat} {k h : Nat} (q : ∀ a b, f a b ≤ n) : ∀ g, lcOf lo hi f k h g ≤ n + 1
  | 0 => Nat.zero_le _
  | g + 1 => by
    have ih := lcOf_le (lo := lo) (hi := hi) (k := k) (h := h) q g
    have := q (k ||| gpN g) (cNx h g)
    rw [lcOf]
    split
    · split
      · omega
      · exact ih
    · exact ih
theorem LCf_le (lo hi : Nat) : ∀ f k h, LCf lo hi f k h ≤ f
  | 0, _, _ => Nat.le_refl 0
  | f + 1, k, h => by
    rw [LCf]
    exact lcOf_le (LCf_le lo hi f) 32
theorem LC_le (lo hi k h : Nat) : LC lo hi k h ≤ 11 := LCf_le lo hi 11 k h
theorem lcOf_3 (lo hi : Nat) (f : Nat → Nat → Nat) (k h : Nat) : lcOf lo hi f k h 3 = 0 := by
  rw [lcOf, if_neg (fun q => absurd q.1 (by decide)), lcOf, if_neg (fun q => absurd q.1 (by decide)), lcOf, if_neg (fun q => absurd q.1 (by decide)), lcOf]
/-! What is kept. -/
def nAt (lc : zJ) (k h : Nat) : Nat := nib (lc 18 (2 * k + h / 16)) (h % 16)
def iMem (lo hi : Nat) (lc : zJ) : Prop := 2 ≤ lo → ∀ k h, k < 1024 → h < 32 → nAt lc k h = 15 ∨ nAt lc k h = LC lo hi k h
/-- only from k on -/
def fLc (k : Nat) (lc lc' : zJ) : Prop := (∀ x y, x ≠ 18 → lc' x y = lc x y) ∧ ∀ k0 h0, k0 < k → h0 < 32 → nAt lc' k0 h0 = nAt lc k0 h0
theorem fLc_tr {k k' : Nat} {a b e : zJ} (h : fLc k a b) (h' : fLc k' b e) (q : k ≤ k') : fLc k a e := ⟨fun x y z => by rw [h'.1 x y z, h.1 x y z], fun k0 h0 z1 z2 => by rw [h'.2 k0 h0 (by omega) z2, h.2 k0 h0 z1 z2]⟩
theorem nAt_put {lc : zJ} {k h v : Nat} (hk : k < 1024) (hh : h < 32) (hv : v < 16) (h15 : nAt lc k h = 15) {k0 h0 : Nat} (hk0 : k0 < 1024) (hh0 : h0 < 32) :
    nAt (zu lc 18 (2 * k + h / 16) (lc 18 (2 * k + h / 16) ^^^ ((Int32.ofNat (15 ^^^ v)).toInt64 <<< ((nSh (h % 16)).toInt64 &&& 63)))) k0 h0 = if k0 = k ∧ h0 = h then v else nAt lc k0 h0 := by
  have x15 : ∀ v : Nat, v < 16 → 15 ^^^ v < 16 ∧ 15 ^^^ (15 ^^^ v) = v := by decide
  obtain ⟨x1, x2⟩ := x15 v hv
  unfold nAt at h15 ⊢
  by_cases e : 2 * k0 + h0 / 16 = 2 * k + h / 16
  · have ek : k0 = k := by omega
    have eh : h0 / 16 = h / 16 := by omega
    subst ek
    rw [e, zu_eq, nib_put _ _ _ (by omega) x1 _ (by omega)]
    by_cases e2 : h0 % 16 = h % 16
    · have : h0 = h := by omega
      subst this
      rw [if_pos rfl, if_pos ⟨rfl, rfl⟩, h15, x2]
    · rw [if_neg e2, if_neg (fun q => e2 (by rw [q.2]))]
  · rw [if_neg (fun q => e (by rw [q.1, q.2]))]
    rw [zu_nk e]
theorem m_here : ∀ h : Nat, h < 32 → ∀ g : Nat, g < 32 → ((Int32.ofNat h ^^^ -1) &&& 31) ||| Int32.ofNat g = Int32.ofNat (cNx h g) ∧ cNx h g < 32 := by decide +kernel
theorem m_row : ∀ h : Nat, h < 32 → (Int32.ofNat h &&& 15) * 4 = nSh (h % 16) ∧ Int32.ofNat h >>> ((4 : Int32) &&& 31) = Int32.ofNat (h / 16) := by decide +kernel
section MEMO
variable {d : Nat} {X : zS} {fr nx : Nat} {P : zR0} {c : zI} {lo hi : Nat}
theorem t_77_50 {Q : zQ} {k h dep : Nat} {l0 : zJ} (hk : k < 1024) (hh : h < 32) (h2 : 2 ≤ lo) (l6 : lo < 100) (h6 : hi < 100) (e1 : c 17 1 = Int32.ofNat lo) (e2 : c 17 2 = Int32.ofNat hi)
    (H : ∀ (k' h' : Nat) (lc : zJ) (K : Int32 → zI → zJ → Prop), k' < 1024 → h' < 32 → k < k' → opN k' < opN k → iMem lo hi lc → (∀ lc', iMem lo hi lc' → fLc k' lc lc' → K (Int32.ofNat (LC lo hi k' h')) c lc') → TI (d + 1) 77 [.ref 17, .int (Int32.ofNat k'), .int (Int32.ofNat h'), .int (Int32.ofNat (dep + 1))] (zCS ++ X) (zCR fr nx P) c lc K)
    (hQ : ∀ lc', iMem lo hi lc' → fLc k l0 lc' → Q (some (.int (Int32.ofNat (LC lo hi k h)))) c lc') (h15 : nAt l0 k h = 15) :
    ∀ (j g : Nat) (lc : zJ), g + j = 32 → 3 ≤ g → iMem lo hi lc → fLc (k + 1) l0 lc → Wf (d + 2) 77 50 [.ref 17, .int (Int32.ofNat k), .int (Int32.ofNat h), .int (Int32.ofNat dep), .int (Int32.ofNat (2 * k + h / 16)), .int (nSh (h % 16)), .retAddr 0, .int (Int32.ofNat (lcOf lo hi (LC lo hi) k h g)), .int (Int32.ofNat g), .retAddr 0, .retAddr 0, .retAddr 0, .retAddr 0] [] (zCS ++ X) (zCR fr nx P) c lc Q
  | 0, g, lc, e, h3, hm, hf => by
    obtain rfl : g = 32 := by omega
    rw [← LC_eq h2]
    have hl := LC_le lo hi k h
    have hz : zin (Int32.ofNat (2 * k + h / 16)) 2048 = true := n_zin (by omega) (by decide)
    refine B_77_50 _ _ _ _ _ _ _ ⟨fun _ => ⟨hz, hz, ?_⟩, fun x => absurd (show (32 : Int32) ≤ Int32.ofNat 32 by decide) x⟩
    rw [n_cl (by omega), show (15 : Int32) ^^^ Int32.ofNat (LC lo hi k h) = Int32.ofNat (15 ^^^ LC lo hi k h) from n_xor 15 _]
    have h15' : nAt lc k h = 15 := by rw [hf.2 k h (Nat.lt_succ_self k) hh, h15]
    have np := fun (k0 h0 : Nat) (a : k0 < 1024) (b : h0 < 32) => nAt_put (v := LC lo hi k h) hk hh (by omega) h15' a b
    refine hQ _ (fun _ k0 h0 a b => ?_) ⟨fun x y z => ?_, fun k0 h0 a b => ?_⟩
    · rw [np k0 h0 a b]
      by_cases q : k0 = k ∧ h0 = h
      · rw [if_pos q, q.1, q.2]; exact .inr rfl
      · rw [if_neg q]; exact hm h2 k0 h0 a b
    · rw [zu_nc z]; exact hf.1 x y z
    · rw [np k0 h0 (by omega) b, if_neg (fun q => by omega)]
      exact hf.2 k0 h0 (by omega) b
  | j + 1, g, lc, e, h3, hm, hf => by
    have ih := fun lc' => t_77_50 hk hh h2 l6 h6 e1 e2 H hQ h15 j (g + 1) lc' (by omega) (by omega)
    have hg : g < 32 := by omega
    have hs := sub_tab g hg h hh
    obtain ⟨o1, o2⟩ := oN_ok g hg
    obtain ⟨p1, p2⟩ := gpN_ok g hg
    obtain ⟨m1, m2⟩ := m_here h hh g hg
    have lz : (zTab 1).getD g 0 = Int32.ofNat (gpN g) := by rw [← gPairs_tab g hg, p1]
    have hand : Int32.ofNat (gpN g) &&& Int32.ofNat k = 0 ↔ gpN g &&& k = 0 := by
      rw [n_and]
      exact n_eq (b := 0) (Nat.lt_of_le_of_lt Nat.and_le_right (by omega)) (by decide)
    refine B_77_50 _ _ _ _ _ _ _ ⟨fun x => absurd ((n_le (a := 32) (by decide) (by omega)).mp x) (by omega), fun _ => ⟨n_zin hg (by decide), t_50g hg ?_⟩⟩
    rw [n_suc, n_cl (by omega), lz, e1, e2]
    have no : (¬ cCan lo hi k h g) → Wf (d + 2) 77 50 [.ref 17, .int (Int32.ofNat k), .int (Int32.ofNat h), .int (Int32.ofNat dep), .int (Int32.ofNat (2 * k + h / 16)), .int (nSh (h % 16)), .retAddr 0, .int (Int32.ofNat (lcOf lo hi (LC lo hi) k h g)), .int (Int32.ofNat (g + 1)), .retAddr 0, .retAddr 0, .retAddr 0, .retAddr 0] [] (zCS ++ X) (zCR fr nx P) c lc Q := by
      intro q
      have := ih lc hm hf
      rw [lcOf, if_neg q] at this
      exact this
    refine ⟨fun x => no (fun q => x (hs.mpr q.2.1)), fun x => ⟨fun y => no (fun q => y (hand.mpr q.2.2.1)), fun y => ⟨fun z => no (fun q => ?_), fun z => ⟨fun u => no (fun q => ?_), fun u => ?_⟩⟩⟩⟩
    · have := (n_lt (by omega) (by omega)).mp z
      have := q.2.2.2.1
      omega
    · have := (n_lt (by omega) (by omega)).mp u
      have := q.2.2.2.2
      omega
    · have hc : cCan lo hi k h g := ⟨h3, hs.mp (Decidable.not_not.mp x), hand.mp (Decidable.not_not.mp y), Nat.le_of_not_lt (fun q => z ((n_lt (by omega) (by omega)).mpr q)), Nat.le_of_not_lt (fun q => u ((n_lt (by omega) (by omega)).mpr q))⟩
      have s := opN_step hg (Nat.le_trans h2 hc.2.2.2.1) hc.2.2.1
      have gr := or_grows (gp_two g hg (Nat.le_trans h2 hc.2.2.2.1)).2 hc.2.2.1
      have lt : k ||| gpN g < 1024 := Nat.or_lt_two_pow (n := 10) (by omega) (by omega)
      rw [m1, n_or, n_suc]
      refine H _ _ lc _ lt m2 gr s hm (fun lc' hm' hf' => ?_)
      have := ih lc' hm' (fLc_tr hf hf' (by omega))
      rw [lcOf, if_pos hc] at this
      have b1 := LC_le lo hi (k ||| gpN g) (cNx h g)
      have b2 : lcOf lo hi (LC lo hi) k h g ≤ 12 := lcOf_le (n := 11) (fun a b => LC_le lo hi a b) g
      have e3 : (1 : Int32) + Int32.ofNat (LC lo hi (k ||| gpN g) (cNx h g)) = Int32.ofNat (1 + LC lo hi (k ||| gpN g) (cNx h g)) := n_add 1 _
      rw [e3]
      by_cases q : lcOf lo hi (LC lo hi) k h g < 1 + LC lo hi (k ||| gpN g) (cNx h g)
      · rw [if_pos q] at this
        rw [if_pos ((n_lt (by omega) (by omega)).mpr q)]
        exact this
      · rw [if_neg q] at this
        rw [if_neg (fun z => q ((n_lt (by omega) (by omega)).mp z))]
        exact this
theorem t_77_in {K : Int32 → zI → zJ → Prop} {k h dep : Nat} {lc : zJ} (h2 : 2 ≤ lo) (l6 : lo < 100) (h6 : hi < 100) (e1 : c 17 1 = Int32.ofNat lo) (e2 : c 17 2 = Int32.ofNat hi) (hd : dep ≤ 10) (hk : k < 1024) (hh : h < 32)
    (H : ∀ (k' h' : Nat) (lc : zJ) (K : Int32 → zI → zJ → Prop), k' < 1024 → h' < 32 → k < k' → opN k' < opN k → iMem lo hi lc → (∀ lc', iMem lo hi lc' → fLc k' lc lc' → K (Int32.ofNat (LC lo hi k' h')) c lc') → TI (d + 1) 77 [.ref 17, .int (Int32.ofNat k'), .int (Int32.ofNat h'), .int (Int32.ofNat (dep + 1))] (zCS ++ X) (zCR fr nx P) c lc K)
    (hm : iMem lo hi lc) (q : ∀ lc', iMem lo hi lc' → fLc k lc lc' → K (Int32.ofNat (LC lo hi k h)) c lc') : TI (d + 2) 77 [.ref 17, .int (Int32.ofNat k), .int (Int32.ofNat h), .int (Int32.ofNat dep)] (zCS ++ X) (zCR fr nx P) c lc K := by
  obtain ⟨r1, r2⟩ := m_row h hh
  have e : Int32.ofNat k * 2 + Int32.ofNat h >>> ((4 : Int32) &&& 31) = Int32.ofNat (2 * k + h / 16) := by
    rw [r2, show Int32.ofNat k * 2 = Int32.ofNat (k * 2) from (Int32.ofNat_mul k 2).symm, n_add, Nat.mul_comm]
  refine TI_of (B_77 _ _ _ ⟨fun x => absurd ((n_lt (a := 10) (by decide) (by omega)).mp x) (by omega), fun _ => ?_⟩)
  rw [e, r1]
  refine ⟨fun x => absurd ((n_lt (b := 0) (by omega) (by decide)).mp x) (by omega), fun _ => ⟨fun _ => ⟨n_zin (by omega) (by decide), ?_⟩, fun x => absurd ((n_lt (b := 2048) (by omega) (by decide)).mpr (by omega)) x⟩⟩
  rw [n_cl (by omega), nib_get _ _ (Nat.mod_lt _ (by decide))]
  have hn := nib_lt (lc 18 (2 * k + h / 16)) (h % 16)
  refine ⟨fun x => ?_, fun x => ?_⟩
  · have x := (n_eq (b := 15) (by omega) (by decide)).mp x
    have := t_77_50 (d := d) (X := X) (fr := fr) (nx := nx) (P := P) (Q := qI K) hk hh h2 l6 h6 e1 e2 H q x 29 3 lc rfl (by decide) hm ⟨fun _ _ _ => rfl, fun _ _ _ _ => rfl⟩
    rw [lcOf_3] at this
    exact this
  · rcases hm h2 k h hk hh with z | z
    · exact absurd ((n_eq (b := 15) (by omega) (by decide)).mpr z) x
    · rw [show nib (lc 18 (2 * k + h / 16)) (h % 16) = LC lo hi k h from z]
      exact q lc hm ⟨fun _ _ _ => rfl, fun _ _ _ _ => rfl⟩
/-- lengthOf -/
theorem t_77 (h2 : 2 ≤ lo) (l6 : lo < 100) (h6 : hi < 100) (e1 : c 17 1 = Int32.ofNat lo) (e2 : c 17 2 = Int32.ofNat hi) : ∀ (n k h dep : Nat) (lc : zJ) (K : Int32 → zI → zJ → Prop), opN k ≤ n → dep + n ≤ 10 → k < 1024 → h < 32 → iMem lo hi lc → (∀ lc', iMem lo hi lc' → fLc k lc lc' → K (Int32.ofNat (LC lo hi k h)) c lc') → TI (d + n + 2) 77 [.ref 17, .int (Int32.ofNat k), .int (Int32.ofNat h), .int (Int32.ofNat dep)] (zCS ++ X) (zCR fr nx P) c lc K := by
  intro n
  induction n with
  | zero =>
    intro k h dep lc K ho hd hk hh hm q
    exact t_77_in h2 l6 h6 e1 e2 (by omega) hk hh (fun k' h' lc K _ _ _ z => absurd z (by omega)) hm q
  | succ n ih =>
    intro k h dep lc K ho hd hk hh hm q
    exact t_77_in (d := d + n + 1) h2 l6 h6 e1 e2 (by omega) hk hh (fun k' h' lc K a b _ z hm' q' => ih k' h' (dep + 1) lc K (by omega) (by omega) a b hm' q') hm q
end MEMO
