/-! The class: places as bits; moved. -/
abbrev tB (x : Int32) (w : Nat) : Prop := x.toBitVec.getLsbD w = true
theorem tB_or (x y : Int32) (w : Nat) : tB (x ||| y) w ↔ tB x w ∨ tB y w := by
  unfold tB; rw [Int32.toBitVec_or, BitVec.getLsbD_or, Bool.or_eq_true]
theorem tB_and (x y : Int32) (w : Nat) : tB (x &&& y) w ↔ tB x w ∧ tB y w := by
  unfold tB; rw [Int32.toBitVec_and, BitVec.getLsbD_and, Bool.and_eq_true]
theorem tB_not {x : Int32} {w : Nat} (hw : w < 32) : tB (x ^^^ -1) w ↔ ¬ tB x w := by
  have e : ∀ w : Nat, w < 32 → (-1 : Int32).toBitVec.getLsbD w = true := by decide +kernel
  unfold tB
  rw [Int32.toBitVec_xor, BitVec.getLsbD_xor, e w hw]
  cases x.toBitVec.getLsbD w <;> simp
theorem tB_0 (w : Nat) : ¬ tB 0 w := by
  show ¬ (0#32).getLsbD w = true
  rw [BitVec.getLsbD_zero]; decide
theorem tB_ext {x y : Int32} (h : ∀ w, w < 32 → (tB x w ↔ tB y w)) : x = y := by
  apply Int32.toBitVec_inj.mp
  apply BitVec.eq_of_getLsbD_eq
  intro i hi
  have := h i hi
  unfold tB at this
  cases a : x.toBitVec.getLsbD i <;> cases b : y.toBitVec.getLsbD i <;> simp_all
theorem tB_z {x : Int32} : x = 0 ↔ ∀ w, w < 32 → ¬ tB x w := by
  constructor
  · intro e w _; rw [e]; exact tB_0 w
  · intro h; exact tB_ext (fun w hw => ⟨fun q => absurd q (h w hw), fun q => absurd q (tB_0 w)⟩)
theorem tB_n {x : Int32} : ¬ x = 0 ↔ ∃ w, w < 32 ∧ tB x w := by
  rw [tB_z]
  constructor
  · intro h
    refine Decidable.byContradiction fun q => h (fun w hw z => q ⟨w, hw, z⟩)
  · rintro ⟨w, hw, z⟩ h; exact h w hw z
theorem tB_pow : ∀ p : Nat, p < 32 → ∀ w : Nat, w < 32 → (tB ((1 : Int32) <<< (Int32.ofNat p &&& 31)) w ↔ w = p) := by decide +kernel
theorem tB_at {x : Int32} {p : Nat} (hp : p < 32) : x &&& ((1 : Int32) <<< (Int32.ofNat p &&& 31)) = 0 ↔ ¬ tB x p := by
  rw [tB_z]
  constructor
  · intro h q
    exact h p hp ((tB_and _ _ _).mpr ⟨q, (tB_pow p hp p hp).mpr rfl⟩)
  · intro h w hw q
    obtain ⟨q1, q2⟩ := (tB_and _ _ _).mp q
    rw [(tB_pow p hp w hw).mp q2] at q1
    exact h q1
/-- all of g are beyond, behind a crossing from side a; the same of side 1 - a: all of g are on a's shore -/
abbrev sdP (a g w : Nat) : Prop := if a = 0 then w &&& g = g else w &&& g = 0
theorem sdP_x : ∀ g : Nat, g < 32 → ∀ w : Nat, w < 32 → ∀ a : Nat, a < 2 → (sdP (1 - a) g (w ^^^ g) ↔ sdP a g w) := by decide +kernel
theorem sdP_th : ∀ g : Nat, g < 32 → ∀ w : Nat, w < 32 → ∀ a : Nat, a < 2 → (sThere (Int32.ofNat g) (Int32.ofNat w) (Int32.ofNat a) ↔ sdP (1 - a) g w) := by decide +kernel
theorem xor_32 {w g : Nat} (hw : w < 32) (hg : g < 32) : w ^^^ g < 32 := Nat.xor_lt_two_pow (n := 5) hw hg
theorem xor_b (w g : Nat) : (w ^^^ g) ^^^ g = w := by rw [Nat.xor_assoc, Nat.xor_self, Nat.xor_zero]
theorem mv_tab : ∀ g : Nat, g < 32 → ∀ w : Nat, w < 32 → ((zTab 2).getD g 0).toBitVec.getLsbD w = decide (w &&& g = 0) := by decide +kernel
theorem mv_n0 : ∀ g : Nat, g < 32 → ∀ w : Nat, w < 32 → (w &&& g = g ↔ g ≤ w ∧ (w - g) &&& g = 0) ∧ (w &&& g = g → w - g = w ^^^ g) := by decide +kernel
theorem mv_n1 : ∀ g : Nat, g < 32 → ∀ w : Nat, w < 32 → w &&& g = 0 → g + w = w ^^^ g := by decide +kernel
theorem n_shu (k : Nat) (hk : k < 32) : (((Int32.toUInt32 (Int32.ofNat k) &&& Int32.toUInt32 31)).toBitVec % 32).toNat = k := by
  have : ∀ k : Nat, k < 32 → (((Int32.toUInt32 (Int32.ofNat k) &&& Int32.toUInt32 31)).toBitVec % 32).toNat = k := by decide +kernel
  exact this k hk
theorem tB_ushr (x : Int32) {g : Nat} (hg : g < 32) (w : Nat) : tB ((Int32.toUInt32 x >>> (Int32.toUInt32 (Int32.ofNat g) &&& Int32.toUInt32 31)).toInt32) w ↔ tB x (g + w) := by
  show (x.toBitVec >>> (((Int32.toUInt32 (Int32.ofNat g) &&& Int32.toUInt32 31)).toBitVec % 32).toNat).getLsbD w = true ↔ _
  rw [n_shu g hg, BitVec.getLsbD_ushiftRight]
theorem tB_shl (x : Int32) {g w : Nat} (hg : g < 32) (hw : w < 32) : tB (x <<< (Int32.ofNat g &&& 31)) w ↔ g ≤ w ∧ tB x (w - g) := by
  unfold tB
  rw [Int32.toBitVec_shiftLeft]
  show (x.toBitVec <<< ((Int32.ofNat g &&& 31).toBitVec.smod 32).toNat).getLsbD w = true ↔ _
  rw [n_shr g hg, BitVec.getLsbD_shiftLeft]
  by_cases h : w < g
  · simp [hw, h]; omega
  · simp [hw, h]; omega
theorem mv0 (x : Int32) {g w : Nat} (hg : g < 32) (hw : w < 32) : tB ((x &&& ((zTab 2).getD g 0)) <<< (Int32.ofNat g &&& 31)) w ↔ w &&& g = g ∧ tB x (w ^^^ g) := by
  obtain ⟨n1, n2⟩ := mv_n0 g hg w hw
  rw [tB_shl _ hg hw, tB_and]
  have e : tB ((zTab 2).getD g 0) (w - g) ↔ (w - g) &&& g = 0 := by
    unfold tB
    rw [mv_tab g hg (w - g) (by omega), decide_eq_true_iff]
  rw [e]
  constructor
  · rintro ⟨h1, h2, h3⟩
    have := n1.mpr ⟨h1, h3⟩
    rw [← n2 this]
    exact ⟨this, h2⟩
  · rintro ⟨h1, h2⟩
    obtain ⟨h3, h4⟩ := n1.mp h1
    rw [← n2 h1] at h2
    exact ⟨h3, h2, h4⟩
theorem mv1 (x : Int32) {g w : Nat} (hg : g < 32) (hw : w < 32) : tB ((Int32.toUInt32 x >>> (Int32.toUInt32 (Int32.ofNat g) &&& Int32.toUInt32 31)).toInt32 &&& ((zTab 2).getD g 0)) w ↔ w &&& g = 0 ∧ tB x (w ^^^ g) := by
  rw [tB_and, tB_ushr _ hg]
  have e : tB ((zTab 2).getD g 0) w ↔ w &&& g = 0 := by
    unfold tB
    rw [mv_tab g hg w hw, decide_eq_true_iff]
  rw [e]
  constructor
  · rintro ⟨h1, h2⟩
    rw [← mv_n1 g hg w hw h2]; exact ⟨h2, h1⟩
  · rintro ⟨h1, h2⟩
    rw [mv_n1 g hg w hw h1]; exact ⟨h2, h1⟩
theorem tB_bit0 (x : Int32) {p : Nat} (hp : p < 32) : (Int32.toUInt32 x >>> (Int32.toUInt32 (Int32.ofNat p) &&& Int32.toUInt32 31)).toInt32 &&& 1 = 0 ↔ ¬ tB x p := by
  have one : ∀ w : Nat, w < 32 → (tB 1 w ↔ w = 0) := by decide +kernel
  rw [tB_z]
  constructor
  · intro h q
    exact h 0 (by decide) ((tB_and _ _ _).mpr ⟨(tB_ushr x hp 0).mpr q, (one 0 (by decide)).mpr rfl⟩)
  · intro h w hw q
    obtain ⟨q1, q2⟩ := (tB_and _ _ _).mp q
    obtain rfl := (one w hw).mp q2
    exact h ((tB_ushr x hp 0).mp q1)
section MOVED
variable {d : Nat} {X : zS} {fr nx : Nat} {P : zR0} {c : zI} {lc : zJ}
theorem t_101 {K : Int32 → zI → zJ → Prop} {x : Int32} {g a : Nat} (hg : g < 32) (ha : a < 2) (h : ∀ v, (∀ w, w < 32 → (tB v w ↔ sdP a g w ∧ tB x (w ^^^ g))) → K v c lc) : TI (d + 1) 101 [.int x, .int (Int32.ofNat g), .int (Int32.ofNat a)] (zCS ++ X) (zCR fr nx P) c lc K := by
  have e0 : Int32.ofNat a = 0 ↔ a = 0 := n_eq (b := 0) (by omega) (by decide)
  refine TI_of (B_101 _ _ _ ⟨fun q => absurd ((n_lt (b := 0) (by omega) (by decide)).mp q) (by omega), fun _ => ⟨fun _ => ⟨fun q => ⟨n_zin hg (by decide), ?_⟩, fun q => ⟨n_zin hg (by decide), ?_⟩⟩, fun q => absurd ((n_lt (b := 32) (by omega) (by decide)).mpr hg) q⟩⟩)
  · rw [n_cl (show g < 2147483648 by omega)]
    refine h _ (fun w hw => ?_)
    rw [mv1 x hg hw]
    unfold sdP
    rw [if_neg (fun z => q (e0.mpr z))]
  · rw [n_cl (show g < 2147483648 by omega)]
    refine h _ (fun w hw => ?_)
    rw [mv0 x hg hw]
    unfold sdP
    rw [if_pos (e0.mp (Decidable.not_not.mp q))]
end MOVED
/-! Ways of the class's search: closed pairs, who is on shore 1; the side is known by the number of crossings. -/
def cQ (G : Nat → Prop) (K0 w0 a0 : Nat) : Nat → Nat → Nat → Nat → Prop
  | 0, f, K, w => f = 0 ∧ K = K0 ∧ w = w0
  | n + 1, f, K, w => ∃ K' w' g f', cQ G K0 w0 a0 n f' K' w' ∧ G g ∧ gpN g &&& K' = 0 ∧ sdP (1 - (a0 + n) % 2) g w' ∧ K = K' ||| gpN g ∧ w = w' ^^^ g ∧ f = if n = 0 then g else f'
def cD (G : Nat → Prop) (K0 w0 a0 n K w : Nat) : Prop := ∃ f, cQ G K0 w0 a0 n f K w
def cSeen (G : Nat → Prop) (K0 w0 a0 i a K w : Nat) : Prop := ∃ j, j ≤ i ∧ (a0 + j) % 2 = a ∧ cD G K0 w0 a0 j K w
def cL (G : Nat → Prop) (K0 w0 a0 i K w : Nat) : Prop := cD G K0 w0 a0 i K w ∧ ¬ ∃ j, j < i ∧ (a0 + j) % 2 = (a0 + i) % 2 ∧ cD G K0 w0 a0 j K w
def cS (G : Nat → Prop) (F : Nat → Nat → Prop) (a K w : Nat) : Prop := ∃ K' w' g, F K' w' ∧ G g ∧ gpN g &&& K' = 0 ∧ sdP (1 - a) g w' ∧ K = K' ||| gpN g ∧ w = w' ^^^ g
section WAYS
variable {G : Nat → Prop} {K0 w0 a0 : Nat}
theorem cD_suc {i K w : Nat} : cD G K0 w0 a0 (i + 1) K w ↔ cS G (cD G K0 w0 a0 i) ((a0 + i) % 2) K w := by
  constructor
  · rintro ⟨f, K', w', g, f', h1, h2, h3, h4, h5, h6, h7⟩
    exact ⟨K', w', g, ⟨f', h1⟩, h2, h3, h4, h5, h6⟩
  · rintro ⟨K', w', g, ⟨f', h1⟩, h2, h3, h4, h5, h6⟩
    exact ⟨_, K', w', g, f', h1, h2, h3, h4, h5, h6, rfl⟩
theorem par_suc {i j : Nat} (h : (a0 + j) % 2 = (a0 + i) % 2) : (a0 + (j + 1)) % 2 = (a0 + (i + 1)) % 2 := by omega
theorem cL_suc {i K w : Nat} : cL G K0 w0 a0 (i + 1) K w ↔ cS G (cL G K0 w0 a0 i) ((a0 + i) % 2) K w ∧ ¬ cSeen G K0 w0 a0 i ((a0 + (i + 1)) % 2) K w := by
  constructor
  · rintro ⟨h1, h2⟩
    refine ⟨?_, fun ⟨j, j1, j2, j3⟩ => h2 ⟨j, by omega, j2, j3⟩⟩
    obtain ⟨K', w', g, q1, q2, q3, q4, q5, q6⟩ := cD_suc.mp h1
    refine ⟨K', w', g, ⟨q1, fun ⟨j, j1, j2, j3⟩ => h2 ⟨j + 1, by omega, par_suc j2, ?_⟩⟩, q2, q3, q4, q5, q6⟩
    exact cD_suc.mpr ⟨K', w', g, j3, q2, q3, by rw [j2]; exact q4, q5, q6⟩
  · rintro ⟨⟨K', w', g, q1, q2, q3, q4, q5, q6⟩, h2⟩
    exact ⟨cD_suc.mpr ⟨K', w', g, q1.1, q2, q3, q4, q5, q6⟩, fun ⟨j, j1, j2, j3⟩ => h2 ⟨j, by omega, j2, j3⟩⟩
theorem cSeen_suc {i a K w : Nat} : cSeen G K0 w0 a0 (i + 1) a K w ↔ cSeen G K0 w0 a0 i a K w ∨ (a = (a0 + (i + 1)) % 2 ∧ cS G (cL G K0 w0 a0 i) ((a0 + i) % 2) K w) := by
  constructor
  · rintro ⟨j, j1, j2, j3⟩
    by_cases e : j = i + 1
    · subst e
      by_cases q : cSeen G K0 w0 a0 i a K w
      · exact .inl q
      · refine .inr ⟨j2.symm, (cL_suc.mp ⟨j3, fun ⟨k, k1, k2, k3⟩ => q ⟨k, by omega, by rw [k2, j2], k3⟩⟩).1⟩
    · exact .inl ⟨j, by omega, j2, j3⟩
  · rintro (⟨j, j1, j2, j3⟩ | ⟨e, K', w', g, q1, q2, q3, q4, q5, q6⟩)
    · exact ⟨j, by omega, j2, j3⟩
    · exact ⟨i + 1, Nat.le_refl _, e.symm, cD_suc.mpr ⟨K', w', g, q1.1, q2, q3, q4, q5, q6⟩⟩
/-- nothing new: all is seen -/
theorem cSeen_all {i : Nat} (h : ∀ K w, ¬ cL G K0 w0 a0 (i + 1) K w) : ∀ n K w, cD G K0 w0 a0 n K w → cSeen G K0 w0 a0 i ((a0 + n) % 2) K w
  | 0, K, w, q => ⟨0, Nat.zero_le _, rfl, q⟩
  | n + 1, K, w, q => by
    obtain ⟨K', w', g, q1, q2, q3, q4, q5, q6⟩ := cD_suc.mp q
    obtain ⟨j, j1, j2, j3⟩ := cSeen_all h n K' w' q1
    have d1 : cD G K0 w0 a0 (j + 1) K w := cD_suc.mpr ⟨K', w', g, j3, q2, q3, by rw [j2]; exact q4, q5, q6⟩
    have p1 := par_suc j2
    by_cases e : j + 1 ≤ i
    · exact ⟨j + 1, e, p1, d1⟩
    · obtain rfl : j = i := by omega
      refine Classical.byContradiction fun z => h K w ⟨d1, fun ⟨k, k1, k2, k3⟩ => z ⟨k, by omega, by rw [k2, p1], k3⟩⟩
theorem cQ_ok {p : Nat} (hp : p < 6) (hG : ∀ g, G g → g < 2 ^ p) (hK : K0 < 2 ^ sTri p) (hw : w0 < 2 ^ p) : ∀ n f K w, cQ G K0 w0 a0 n f K w → K < 2 ^ sTri p ∧ w < 2 ^ p
  | 0, f, K, w, h => by obtain ⟨-, rfl, rfl⟩ := h; exact ⟨hK, hw⟩
  | n + 1, f, K, w, h => by
    obtain ⟨K', w', g, f', q1, q2, q3, q4, rfl, rfl, q7⟩ := h
    obtain ⟨r1, r2⟩ := cQ_ok hp hG hK hw n f' K' w' q1
    have hg := hG g q2
    have : ∀ p : Nat, p < 6 → ∀ g : Nat, g < 32 → g < 2 ^ p → gpN g < 2 ^ sTri p := by decide +kernel
    have l32 : 2 ^ p ≤ 2 ^ 5 := Nat.pow_le_pow_right (by decide) (by omega)
    exact ⟨Nat.or_lt_two_pow r1 (this p hp g (by omega) hg), Nat.xor_lt_two_pow r2 hg⟩
theorem cQ_sub {x : Nat} : ∀ n f K w, cQ G K0 w0 a0 n f K w → x &&& K = 0 → x &&& K0 = 0
  | 0, f, K, w, h, e => by obtain ⟨-, rfl, -⟩ := h; exact e
  | n + 1, f, K, w, h, e => by
    obtain ⟨K', w', g, f', q1, q2, q3, q4, rfl, -⟩ := h
    exact cQ_sub n f' K' w' q1 ((and_or0 _ _ _).mp e).1
/-- back from the ends -/
def cB (G : Nat → Prop) (K0 w0 a0 N W : Nat) : Nat → Nat → Nat → Prop
  | 0, K, w => cD G K0 w0 a0 N K w ∧ w = W
  | r + 1, K, w => ∃ g, G g ∧ gpN g &&& K = 0 ∧ gpN g &&& K0 = 0 ∧ sdP (1 - (a0 + (N - (r + 1))) % 2) g w ∧ cB G K0 w0 a0 N W r (K ||| gpN g) (w ^^^ g)
theorem cB_fwd {N W : Nat} : ∀ (r n f K w : Nat), n + r = N → 1 ≤ n → cQ G K0 w0 a0 n f K w → cB G K0 w0 a0 N W r K w → ∃ K', cQ G K0 w0 a0 N f K' W
  | 0, n, f, K, w, e, h1, hq, hb => by
    obtain ⟨-, rfl⟩ := hb
    obtain rfl : n = N := by omega
    exact ⟨K, hq⟩
  | r + 1, n, f, K, w, e, h1, hq, hb => by
    obtain ⟨g, b1, b2, b3, b4, b5⟩ := hb
    have en : N - (r + 1) = n := by omega
    rw [en] at b4
    exact cB_fwd r (n + 1) f _ _ (by omega) (by omega) ⟨K, w, g, f, hq, b1, b2, b4, rfl, rfl, by rw [if_neg (by omega)]⟩ b5
theorem cB_bwd {N W f K' : Nat} (hq : cQ G K0 w0 a0 N f K' W) : ∀ (r n : Nat), n + r = N → 1 ≤ n → ∃ K w, cQ G K0 w0 a0 n f K w ∧ cB G K0 w0 a0 N W r K w
  | 0, n, e, h1 => by
    obtain rfl : n = N := by omega
    exact ⟨K', W, hq, ⟨f, hq⟩, rfl⟩
  | r + 1, n, e, h1 => by
    obtain ⟨K, w, h2, h3⟩ := cB_bwd hq r (n + 1) (by omega) (by omega)
    obtain ⟨K1, w1, g, f', q1, q2, q3, q4, rfl, rfl, q7⟩ := h2
    rw [if_neg (by omega)] at q7
    subst q7
    refine ⟨K1, w1, q1, g, q2, q3, cQ_sub n f K1 w1 q1 q3, ?_, h3⟩
    rw [show N - (r + 1) = n by omega]; exact q4
/-- the first group of a way home -/
theorem cB_first {N W g : Nat} (hN : 1 ≤ N) : (∃ K', cQ G K0 w0 a0 N g K' W) ↔ G g ∧ gpN g &&& K0 = 0 ∧ sdP (1 - a0 % 2) g w0 ∧ cB G K0 w0 a0 N W (N - 1) (K0 ||| gpN g) (w0 ^^^ g) := by
  constructor
  · rintro ⟨K', hq⟩
    obtain ⟨K, w, h1, h2⟩ := cB_bwd hq (N - 1) 1 (by omega) (Nat.le_refl _)
    obtain ⟨K1, w1, g', f', ⟨-, rfl, rfl⟩, q2, q3, q4, rfl, rfl, q7⟩ := h1
    rw [if_pos rfl] at q7
    subst q7
    exact ⟨q2, q3, q4, h2⟩
  · rintro ⟨q2, q3, q4, h2⟩
    exact cB_fwd (N - 1) 1 g _ _ (by omega) (Nat.le_refl _) ⟨K0, w0, g, 0, ⟨rfl, rfl, rfl⟩, q2, q3, q4, rfl, rfl, rfl⟩ h2
end WAYS
