/-! The class: leftOut, left. -/
def cRc (G : Nat → Prop) (K0 w0 a0 a K w : Nat) : Prop := ∃ n, (a0 + n) % 2 = a ∧ cD G K0 w0 a0 n K w
/-- who can go with somebody: from the places of some sets of closed pairs -/
def cTo (G : Nat → Prop) (K0 w0 a0 : Nat) (B : Nat → Prop) (x : Nat) : Prop := ∃ K a w g, B K ∧ a < 2 ∧ w < 32 ∧ cRc G K0 w0 a0 a K w ∧ G g ∧ gpN g ≠ 0 ∧ gpN g &&& K = 0 ∧ sdP (1 - a) g w ∧ g.testBit x = true
def iZ (G : Nat → Prop) (K0 w0 a0 C : Nat) (c : zI) : Prop :=
  (∀ a, a < 2 → ∀ K, K < 1024 → ∀ w, w < 32 → tB (c (21 + a) K) w → cRc G K0 w0 a0 a K w) ∧
  (∀ K, K < C → ∀ a, a < 2 → ∀ w, w < 32 → cRc G K0 w0 a0 a K w → tB (c (21 + a) K) w) ∧
  (∀ K, K < C → ∀ a, a < 2 → ∀ w, w < 32 → ∀ g, tB (c (21 + a) K) w → G g → gpN g ≠ 0 → gpN g &&& K = 0 → sdP (1 - a) g w → tB (c (22 - a) (K ||| gpN g)) (w ^^^ g)) ∧
  tB (c (21 + a0) K0) w0
theorem cQ_ge {G : Nat → Prop} {K0 w0 a0 : Nat} : ∀ n f K w, cQ G K0 w0 a0 n f K w → K0 ≤ K
  | 0, f, K, w, h => by obtain ⟨-, rfl, -⟩ := h; exact Nat.le_refl _
  | n + 1, f, K, w, h => by
    obtain ⟨K', w', g, f', h1, -, -, -, rfl, -⟩ := h
    exact Nat.le_trans (cQ_ge n f' K' w' h1) Nat.left_le_or
section LEFT
variable {d : Nat} {X : zS} {fr nx : Nat} {P : zR0} {lc : zJ} {G : Nat → Prop} {Gs : List Nat} {K0 w0 a0 p : Nat}
theorem cRc_step {a K w g : Nat} (ha : a < 2) (h : cRc G K0 w0 a0 a K w) (hG : G g) (h1 : gpN g &&& K = 0) (h2 : sdP (1 - a) g w) : cRc G K0 w0 a0 (1 - a) (K ||| gpN g) (w ^^^ g) := by
  obtain ⟨n, e, q⟩ := h
  exact ⟨n + 1, by omega, cD_suc.mpr ⟨K, w, g, q, hG, h1, by rw [e]; exact h2, rfl, rfl⟩⟩
/-- all that is reached of C is there, if what is there is closed -/
theorem iZ_all {C : Nat} {c : zI} (ha : a0 < 2) (hp : p < 6) (hGp : ∀ g, G g → g < 2 ^ p) (hK : K0 < 2 ^ sTri p) (hw : w0 < 2 ^ p) (hm : ∀ g, g ∈ Gs ↔ G g) (hZ : iZ G K0 w0 a0 C c) (hcl : iCl Gs C c) : ∀ n w, cD G K0 w0 a0 n C w → tB (c (21 + (a0 + n) % 2) C) w
  | 0, w, h => by
    obtain ⟨f, -, rfl, rfl⟩ := h
    rw [Nat.add_zero, Nat.mod_eq_of_lt ha]
    exact hZ.2.2.2
  | n + 1, w, h => by
    obtain ⟨K', w', g, ⟨f, q1⟩, q2, q3, q4, q5, rfl⟩ := cD_suc.mp h
    obtain ⟨k1, k2⟩ := cQ_ok hp hGp hK hw n f K' w' q1
    have l32 : 2 ^ p ≤ 2 ^ 5 := Nat.pow_le_pow_right (by decide) (by omega)
    have hg : g < 32 := by have := hGp g q2; omega
    have hw' : w' < 32 := by omega
    have hn2 : (a0 + n) % 2 < 2 := Nat.mod_lt _ (by decide)
    by_cases g0 : gpN g = 0
    · have eK : K' = C := by rw [q5, g0, Nat.or_zero]
      subst eK
      have ih := iZ_all ha hp hGp hK hw hm hZ hcl n w' ⟨f, q1⟩
      obtain ⟨c1, c2⟩ := hcl g ((hm g).mpr q2) g0
      have hx := sdP_x g hg (w' ^^^ g) (xor_32 hw' hg) ((a0 + n) % 2) hn2
      rw [xor_b] at hx
      have hs := hx.mp q4
      have ca : (a0 + n) % 2 = 0 ∨ (a0 + n) % 2 = 1 := by omega
      rcases ca with e | e
      · rw [e] at ih hs
        rw [show (a0 + (n + 1)) % 2 = 1 by omega]
        exact c1 _ (xor_32 hw' hg) hs (by rw [xor_b]; exact ih)
      · rw [e] at ih hs
        rw [show (a0 + (n + 1)) % 2 = 0 by omega]
        exact c2 _ (xor_32 hw' hg) hs (by rw [xor_b]; exact ih)
    · have hne := or_self0 q3 g0
      have hle : K' ≤ K' ||| gpN g := Nat.left_le_or
      have hlt : K' < C := by omega
      have h1 := hZ.2.1 K' hlt _ hn2 w' hw' ⟨n, rfl, f, q1⟩
      have h2 := hZ.2.2.1 K' hlt _ hn2 w' hw' g h1 q2 g0 q3 q4
      rw [show 22 - (a0 + n) % 2 = 21 + (a0 + (n + 1)) % 2 by omega, ← q5] at h2
      exact h2
def iLo (G : Nat → Prop) (Gs : List Nat) (K0 w0 a0 p C T : Nat) (c0 c : zI) : Prop := gAt c Gs ∧ c 17 5 = Int32.ofNat (2 ^ sTri p) ∧ fSr c0 c ∧ iZ G K0 w0 a0 C c ∧ T < 32 ∧ ∀ x, x < 5 → (T.testBit x = true ↔ cTo G K0 w0 a0 (fun K => K < C) x)
theorem iLo_next {C T T' : Nat} {c0 c c1 c2 : zI} (ha : a0 < 2) (hp : p < 6) (hGp : ∀ g, G g → g < 2 ^ p) (hK : K0 < 2 ^ sTri p) (hw : w0 < 2 ^ p) (hm : ∀ g, g ∈ Gs ↔ G g) (hC : C < 1024) (hI : iLo G Gs K0 w0 a0 p C T c0 c) (h1 : iGr C (fun a w => cRc G K0 w0 a0 a C w) c c1) (h2 : iCl Gs C c1) (h3 : iTg Gs C Gs.length T' c1 c2) : iLo G Gs K0 w0 a0 p (C + 1) (T ||| T') c0 c2 := by
  obtain ⟨⟨g1, g2⟩, i5, i6, ⟨z1, z2, z3, z4⟩, t1, t2⟩ := hI
  obtain ⟨u1, u2, u3⟩ := h1
  obtain ⟨v1, ⟨v2, v3⟩, v4⟩ := h3
  rw [List.take_length] at v3
  have l32 : 2 ^ p ≤ 2 ^ 5 := Nat.pow_le_pow_right (by decide) (by omega)
  have g32 : ∀ g, G g → g < 32 := fun g hg => by have := hGp g hg; omega
  have gp10 : ∀ g, G g → gpN g < 1024 := fun g hg => (gpN_ok g (g32 g hg)).2
  have fr12 : ∀ x K, x ≠ 21 → x ≠ 22 → c2 x K = c x K := fun x K a b => by rw [v4 x K a b, u3 x K (by omega)]
  -- growth
  have up1 : ∀ a, a < 2 → ∀ K w, w < 32 → tB (c (21 + a) K) w → tB (c1 (21 + a) K) w := fun a ha K w hw q => by
    by_cases eK : K = C
    · subst eK
      have ca : a = 0 ∨ a = 1 := by omega
      rcases ca with rfl | rfl
      · exact (u1 w hw).1 q
      · exact (u1 w hw).2 q
    · rw [u3 _ K (by omega)]; exact q
  have up2 : ∀ a, a < 2 → ∀ K, K < 1024 → ∀ w, w < 32 → tB (c1 (21 + a) K) w → tB (c2 (21 + a) K) w := fun a ha K hK w hw q => by
    have := (v1 (1 - a) (by omega) K hK w hw).mpr (.inl (by rw [show 22 - (1 - a) = 21 + a by omega]; exact q))
    rw [show 22 - (1 - a) = 21 + a by omega] at this
    exact this
  have low : ∀ a, a < 2 → ∀ K, K ≤ C → ∀ w, w < 32 → (tB (c2 (21 + a) K) w ↔ tB (c1 (21 + a) K) w) := fun a ha K hK w hw => by
    have := v1 (1 - a) (by omega) K (by omega) w hw
    rw [show 22 - (1 - a) = 21 + a by omega] at this
    refine this.trans ⟨fun z => z.elim id (fun ⟨g, y, y1, y2, y3, _⟩ => ?_), .inl⟩
    have h1 := or_self0 y2 y1
    have h2 : C ≤ C ||| gpN g := Nat.left_le_or
    omega
  have s1 : ∀ a, a < 2 → ∀ K, K < 1024 → ∀ w, w < 32 → tB (c1 (21 + a) K) w → cRc G K0 w0 a0 a K w := fun a ha K hK w hw q => by
    by_cases eK : K = C
    · subst eK
      have ca : a = 0 ∨ a = 1 := by omega
      rcases ca with rfl | rfl
      · exact (u2 w hw).1 q
      · exact (u2 w hw).2 q
    · rw [u3 _ K (by omega)] at q
      exact z1 a ha K hK w hw q
  have Z1 : iZ G K0 w0 a0 C c1 := by
    refine ⟨s1, fun K hK a ha w hw q => up1 a ha K w hw (z2 K hK a ha w hw q), fun K hK a ha w hw g q1 q2 q3 q4 q5 => ?_, up1 a0 ha K0 w0 (by omega) z4⟩
    rw [u3 _ K (by omega)] at q1
    have := up1 (1 - a) (by omega) (K ||| gpN g) (w ^^^ g) (xor_32 hw (g32 g q2)) (by rw [show 21 + (1 - a) = 22 - a by omega]; exact z3 K hK a ha w hw g q1 q2 q3 q4 q5)
    rw [show 21 + (1 - a) = 22 - a by omega] at this
    exact this
  have all := iZ_all ha hp hGp hK hw hm Z1 h2
  have allC : ∀ a, a < 2 → ∀ w, w < 32 → cRc G K0 w0 a0 a C w → tB (c1 (21 + a) C) w := fun a _ w _ ⟨n, e, q⟩ => by
    have := all n w q
    rw [e] at this
    exact this
  have t10 := tri_1024 hp
  refine ⟨⟨by rw [fr12 17 4 (by decide) (by decide)]; exact g1, fun i hi => by rw [fr12 19 i (by decide) (by decide)]; exact g2 i hi⟩, by rw [fr12 17 5 (by decide) (by decide)]; exact i5, fun x k e1 e2 e3 e4 e5 e6 => by rw [fr12 x k e3 e4]; exact i6 x k e1 e2 e3 e4 e5 e6, ⟨fun a ha K hK w hw q => ?_, fun K hK a ha w hw q => ?_, fun K hK a ha w hw g q1 q2 q3 q4 q5 => ?_, up2 a0 ha K0 (by omega) w0 (by omega) Z1.2.2.2⟩, Nat.or_lt_two_pow (n := 5) t1 v2, fun x hx => ?_⟩
  · have := (v1 (1 - a) (by omega) K hK w hw).mp (by rw [show 22 - (1 - a) = 21 + a by omega]; exact q)
    rw [show 22 - (1 - a) = 21 + a by omega] at this
    rcases this with y | ⟨g, y, y1, y2, rfl, y4, y5⟩
    · exact s1 a ha K hK w hw y
    · rw [List.take_length] at y
      have hg := g32 g ((hm g).mp y)
      have hr := s1 (1 - a) (by omega) C hC (w ^^^ g) (xor_32 hw hg) y5
      have := cRc_step (by omega) hr ((hm g).mp y) y2 ((sdP_x g hg w hw (1 - a) (by omega)).mpr y4)
      rw [xor_b, show 1 - (1 - a) = a by omega] at this
      exact this
  · rw [low a ha K (by omega) w hw]
    by_cases eK : K = C
    · subst eK; exact allC a ha w hw q
    · exact Z1.2.1 K (by omega) a ha w hw q
  · rw [low a ha K (by omega) w hw] at q1
    have hg := g32 g q2
    by_cases eK : K = C
    · subst eK
      refine (v1 a ha (K ||| gpN g) (Nat.or_lt_two_pow (n := 10) (by omega) (gp10 g q2)) (w ^^^ g) (xor_32 hw hg)).mpr (.inr ⟨g, by rw [List.take_length]; exact (hm g).mpr q2, q3, q4, rfl, ?_, by rw [xor_b]; exact q1⟩)
      have := sdP_x g hg (w ^^^ g) (xor_32 hw hg) a ha
      rw [xor_b] at this
      exact this.mp q5
    · have := Z1.2.2.1 K (by omega) a ha w hw g q1 q2 q3 q4 q5
      have := up2 (1 - a) (by omega) (K ||| gpN g) (Nat.or_lt_two_pow (n := 10) (by omega) (gp10 g q2)) (w ^^^ g) (xor_32 hw hg) (by rw [show 21 + (1 - a) = 22 - a by omega]; exact this)
      rw [show 21 + (1 - a) = 22 - a by omega] at this
      exact this
  · rw [Nat.testBit_or, Bool.or_eq_true, t2 x hx, v3 x hx]
    constructor
    · rintro (⟨K, a, w, g, y1, y⟩ | ⟨g, y, y1, y2, ⟨a, w, ha', hw', y3, y4⟩, y5⟩)
      · exact ⟨K, a, w, g, by show K < C + 1; have y1 : K < C := y1; omega, y⟩
      · have hg := g32 g ((hm g).mp y)
        exact ⟨C, a, w ^^^ g, g, Nat.lt_succ_self C, ha', xor_32 hw' hg, s1 a ha' C hC _ (xor_32 hw' hg) y4, (hm g).mp y, y1, y2, (sdP_x g hg w hw' a ha').mpr y3, y5⟩
    · rintro ⟨K, a, w, g, y1, y2, y3, y4, y5, y6, y7, y8, y9⟩
      have y1 : K < C + 1 := y1
      by_cases eK : K = C
      · subst eK
        have hg := g32 g y5
        refine .inr ⟨g, (hm g).mpr y5, y6, y7, ⟨a, w ^^^ g, y2, xor_32 y3 hg, ?_, by rw [xor_b]; exact allC a y2 w y3 y4⟩, y9⟩
        have := sdP_x g hg (w ^^^ g) (xor_32 y3 hg) a y2
        rw [xor_b] at this
        exact this.mp y8
      · exact .inl ⟨K, a, w, g, by show K < C; omega, y2, y3, y4, y5, y6, y7, y8, y9⟩
/-- nothing there: nothing is come to -/
theorem iTg_none {C : Nat} {c : zI} (h21 : c 21 C = 0) (h22 : c 22 C = 0) : iTg Gs C Gs.length 0 c c := by
  have hz : ∀ a, a < 2 → ∀ w, ¬ tB (c (21 + a) C) w := fun a ha w q => by
    have ca : a = 0 ∨ a = 1 := by omega
    rcases ca with rfl | rfl
    · have q : tB (c 21 C) w := q
      rw [h21] at q; exact tB_0 w q
    · have q : tB (c 22 C) w := q
      rw [h22] at q; exact tB_0 w q
  refine ⟨fun a ha K _ w _ => ⟨.inl, fun z => z.elim id (fun ⟨g, y, y1, y2, y3, y4, y5⟩ => absurd y5 (hz a ha _))⟩, ⟨by decide, fun x _ => ?_⟩, fun _ _ _ _ => rfl⟩
  rw [Nat.zero_testBit]
  exact ⟨fun z => absurd z (by decide), fun ⟨g, y, y1, y2, ⟨a, w, ha, hw, y3, y4⟩, y5⟩ => absurd y4 (hz a ha _)⟩
theorem t_106_17 {Q : zQ} {c0 : zI} (ha : a0 < 2) (hp : p < 6) (hGp : ∀ g, G g → g < 2 ^ p) (hK : K0 < 2 ^ sTri p) (hw : w0 < 2 ^ p) (hm : ∀ g, g ∈ Gs ↔ G g) (hlen : Gs.length < 32)
    (h : ∀ c T, fSr c0 c → (T < 32 ∧ ∀ x, x < 5 → (T.testBit x = true ↔ cTo G K0 w0 a0 (fun _ => True) x)) → Q (some (.int (Int32.ofNat (2 ^ p - 1) &&& (Int32.ofNat T ^^^ -1)))) c lc) :
    ∀ (j C T : Nat) (c : zI), C + j = 2 ^ sTri p → iLo G Gs K0 w0 a0 p C T c0 c → Wf (d + 3) 106 17 [.ref 17, .retAddr 0, .retAddr 0, .retAddr 0, .retAddr 0, .int (Int32.ofNat (2 ^ p - 1)), .int (Int32.ofNat T), .int (Int32.ofNat C)] [] (zCS ++ X) (zCR fr nx P) c lc Q
  | j, C, T, c, e, hI => by
    have hI' := hI
    obtain ⟨hg, i5, i6, hZ, t1, t2⟩ := hI'
    obtain ⟨p1, p2⟩ := tri_1024 hp
    have l32 : 2 ^ p ≤ 2 ^ 5 := Nat.pow_le_pow_right (by decide) (by omega)
    have g32 : ∀ g, G g → g < 32 := fun g hg => by have := hGp g hg; omega
    have part : ∀ x, cTo G K0 w0 a0 (fun K => K < C) x → cTo G K0 w0 a0 (fun _ => True) x := fun x ⟨K, a, w, g, y1, y⟩ => ⟨K, a, w, g, trivial, y⟩
    have ends : 2 ^ sTri p ≤ C → Q (some (.int (Int32.ofNat (2 ^ p - 1) &&& (Int32.ofNat T ^^^ -1)))) c lc := fun q =>
      h c T i6 ⟨t1, fun x hx => (t2 x hx).trans ⟨part x, fun ⟨K, a, w, g, y1, y2, y3, y4, y5⟩ => ⟨K, a, w, g, by
        obtain ⟨n, e, f, q1⟩ := y4
        have := (cQ_ok hp hGp hK hw n f K w q1).1
        show K < C
        omega, y2, y3, y4, y5⟩⟩⟩
    refine B_106_17 1 27 _ _ _ (.inl rfl) (.inl rfl) ⟨fun q => ends ?_, fun q => ⟨fun q2 => ends ?_, fun _ => ⟨fun q3 => ?_, fun _ => ?_⟩⟩⟩
    · rw [i5] at q
      exact (n_le (by omega) (by omega)).mp q
    · have := (n_le (a := 1024) (by decide) (by omega)).mp q2
      omega
    · have eT : T = 2 ^ p - 1 := (n_eq (by omega) (by omega)).mp q3
      refine h c T i6 ⟨t1, fun x hx => ⟨fun z => part x ((t2 x hx).mp z), fun ⟨K, a, w, g, y1, y2, y3, y4, y5, y6, y7, y8, y9⟩ => ?_⟩⟩
      rw [eT, Nat.testBit_two_pow_sub_one, decide_eq_true_iff]
      refine Nat.lt_of_not_le (fun z => ?_)
      have hg := hGp g y5
      have : 2 ^ p ≤ 2 ^ x := Nat.pow_le_pow_right (by decide) z
      rw [Nat.testBit_lt_two_pow (by omega)] at y9
      exact absurd y9 (by decide)
    · rw [i5] at q
      have hlt : C < 2 ^ sTri p := Nat.lt_of_not_le (fun z => q ((n_le (by omega) (by omega)).mpr z))
      obtain ⟨j, rfl⟩ : ∃ i, j = i + 1 := ⟨j - 1, by omega⟩
      have hC : C < 1024 := by omega
      have hz := n_zin (k := C) (n := 1024) hC (by decide)
      have sound0 : ∀ w, w < 32 → (tB (c 21 C) w → cRc G K0 w0 a0 0 C w) ∧ (tB (c 22 C) w → cRc G K0 w0 a0 1 C w) := fun w hw => ⟨hZ.1 0 (by decide) C hC w hw, hZ.1 1 (by decide) C hC w hw⟩
      refine ⟨by decide, hz, by decide, hz, ?_⟩
      rw [n_cl (show C < 2147483648 by omega)]
      refine ⟨fun y => ?_, fun y => ?_⟩
      · have hno := tB_z.mp y
        have h21 : c 21 C = 0 := tB_z.mpr (fun w hw z => hno w hw ((tB_or _ _ _).mpr (.inl z)))
        have h22 : c 22 C = 0 := tB_z.mpr (fun w hw z => hno w hw ((tB_or _ _ _).mpr (.inr z)))
        have nxt := iLo_next ha hp hGp hK hw hm hC hI ⟨fun w _ => ⟨id, id⟩, sound0, fun _ _ _ => rfl⟩ (fun g _ _ => ⟨fun w _ _ z => by rw [h21] at z; exact absurd z (tB_0 _), fun w _ _ z => by rw [h22] at z; exact absurd z (tB_0 _)⟩) (iTg_none h21 h22)
        rw [Nat.or_zero] at nxt
        rw [n_suc]
        exact t_106_17 ha hp hGp hK hw hm hlen h j (C + 1) T c (by omega) nxt
      · refine t_107 (d := d) (R := fun a w => cRc G K0 w0 a0 a C w) hC hg hlen (fun g hg => g32 g ((hm g).mp hg)) (fun g hg g0 w hw => ⟨fun r s => ?_, fun r s => ?_⟩) sound0 y (fun c1 h1 h2 => ?_)
        · have := cRc_step (a := 0) (by decide) r ((hm g).mp hg) (by rw [g0, Nat.zero_and]) s
          rw [g0, Nat.or_zero] at this
          exact this
        · have := cRc_step (a := 1) (by decide) r ((hm g).mp hg) (by rw [g0, Nat.zero_and]) s
          rw [g0, Nat.or_zero] at this
          exact this
        · have hg1 : gAt c1 Gs := ⟨by rw [h1.2.2 17 4 (by omega)]; exact hg.1, fun i hi => by rw [h1.2.2 19 i (by omega)]; exact hg.2 i hi⟩
          refine t_108 (d := d) hC hg1 hlen (fun g hg => g32 g ((hm g).mp hg)) (fun c2 T' h3 => ?_)
          rw [n_or, n_suc]
          exact t_106_17 ha hp hGp hK hw hm hlen h j (C + 1) (T ||| T') c2 (by omega) (iLo_next ha hp hGp hK hw hm hC hI h1 h2 h3)
end LEFT
section LEFTS
variable {d : Nat} {X : zS} {fr nx : Nat} {P : zR0} {lc : zJ} {m : zI} {cs : List pCl}
theorem t_106 {K : Int32 → zI → zJ → Prop} {c : zI} {cl r : Nat} (hf : iFN fr nx) (hr : iPc r) (hS : cSc 1 c m) (hp : iP m) (hb : iB m) (hw : iW m) (hP : cPa r c cs) (hc : iCs cs) (hcl : cl < 1024)
    (h : ∀ c' T, fSr c c' → (T < 32 ∧ ∀ x, x < 5 → (T.testBit x = true ↔ cTo (cG (mPe m) cs) (cl &&& (2 ^ sTri (mPe m) - 1)) (mW m) (mBo m) (fun _ => True) x)) → K (Int32.ofNat (2 ^ mPe m - 1) &&& (Int32.ofNat T ^^^ -1)) c' lc) :
    TI (d + 5) 106 [.ref 17, .ref 1, .int (Int32.ofNat cl), .ref r] (zCS ++ X) (zCR fr nx P) c lc K := by
  obtain ⟨q1, q2⟩ := iP_of hp
  obtain ⟨b1, b2⟩ := mBo_of hb
  obtain ⟨t1, t2⟩ := tri_1024 q2
  have pw := pow_tri _ hp
  have hmod : cl &&& (2 ^ sTri (mPe m) - 1) < 2 ^ sTri (mPe m) := by
    rw [Nat.and_two_pow_sub_one_eq_mod]; exact Nat.mod_lt _ t2
  have hm : ∀ g, g ∈ gl (cG (mPe m) cs) 32 ↔ cG (mPe m) cs g := fun g => by
    rw [gl_mem]
    exact ⟨fun z => z.2.2, fun z => ⟨by have := z.2.1; omega, z.1, z⟩⟩
  have hlen : (gl (cG (mPe m) cs) 32).length < 32 := Nat.lt_of_le_of_lt (gl_len (cG (mPe m) cs) 31) (by decide)
  refine TI_of (B_106 1 _ r (.inl rfl) hr (t_98 (d := d) (m := m) hr hf hS hp hb hw hP hc hcl (fun c1 hB hf1 h17 => ?_)))
  obtain ⟨g1, g2, g3, g4, g5, g6⟩ := hB
  have hS2 : cSc 1 c1 m := cSc_eq (fun k _ => hf1 1 k (by omega) (by decide) (by decide) (by decide) (by decide) (by decide)) (fun k _ => hf1 2 k (by omega) (by decide) (by decide) (by decide) (by decide) (by decide)) hS
  have hin : ∀ a, a < 2 → ∀ K, K < 1024 → ∀ w, w < 32 → (tB (c1 (21 + a) K) w ↔ a = mBo m ∧ K = cl &&& (2 ^ sTri (mPe m) - 1) ∧ w = mW m) := fun a ha K hK w hw => by
    by_cases e : a = mBo m
    · subst e
      exact (g3 K hK w hw).trans ⟨fun z => ⟨rfl, z⟩, fun z => z.2⟩
    · rw [show 21 + a = 22 - mBo m by omega]
      exact (g4 K hK w hw).trans ⟨fun z => z.elim, fun z => absurd z.1 e⟩
  have hge : ∀ a K w, cRc (cG (mPe m) cs) (cl &&& (2 ^ sTri (mPe m) - 1)) (mW m) (mBo m) a K w → cl &&& (2 ^ sTri (mPe m) - 1) ≤ K := fun a K w ⟨n, e, f, q⟩ => cQ_ge n f K w q
  have sound : ∀ a, a < 2 → ∀ K, K < 1024 → ∀ w, w < 32 → tB (c1 (21 + a) K) w → cRc (cG (mPe m) cs) (cl &&& (2 ^ sTri (mPe m) - 1)) (mW m) (mBo m) a K w := fun a ha K hK w hw q => by
    obtain ⟨e1, e2, e3⟩ := (hin a ha K hK w hw).mp q
    exact ⟨0, by omega, 0, rfl, e2, e3⟩
  refine t_67 (d := d + 3) (m := m) (.inl rfl) hp hS2.1 (t_106_17 (d := d + 2) (Q := qI K) (c0 := c) (Gs := gl (cG (mPe m) cs) 32) b2 q2 (fun g hg => hg.2.1) hmod hw.2 hm hlen h (2 ^ sTri (mPe m) - (cl &&& (2 ^ sTri (mPe m) - 1))) (cl &&& (2 ^ sTri (mPe m) - 1)) 0 c1 (by omega) ⟨g1, g2, hf1, ⟨sound, fun K hK a _ w _ q => ?_, fun K hK a ha w hw g q _ _ _ _ => ?_, (hin _ b2 _ (by omega) _ (by have := hw.2; omega)).mpr ⟨rfl, rfl, rfl⟩⟩, by decide, fun x _ => ?_⟩)
  · have := hge a K w q; omega
  · have := hge a K w (sound a ha K (by omega) w hw q); omega
  · rw [Nat.zero_testBit]
    refine ⟨fun z => absurd z (by decide), fun ⟨K, a, w, g, y1, y2, y3, y4, y5⟩ => ?_⟩
    have := hge a K w y4
    have y1 : K < _ := y1
    omega
theorem gp_two3 : ∀ g : Nat, g < 32 → (gpN g ≠ 0 ↔ 3 ≤ g ∧ ¬ sOnes (Int32.ofNat g) 10 ≤ 1) := by decide +kernel
theorem br_left {n0 T : Nat} (hA : iA n0 m (tkOf cs)) (hH : iHold m cs) (hc : iCs cs) (h : T < 32 ∧ ∀ x, x < 5 → (T.testBit x = true ↔ cTo (cG (mPe m) cs) (clN m cs &&& (2 ^ sTri (mPe m) - 1)) (mW m) (mBo m) (fun _ => True) x)) : lfIs (mLook m (tkOf cs)) (aNow m) T := by
  have pw := pow_tri _ hA.2.1
  refine ⟨h.1, fun x hx => (h.2 x hx).trans ⟨?_, ?_⟩⟩
  · rintro ⟨K, a, w, g, -, y2, y3, ⟨n, e, f, q⟩, y5, y6, y7, y8, y9⟩
    obtain ⟨t, t1, rfl, rfl, t4⟩ := br_2 hA hH hc n f K w q
    have ht := (hQ_lt (aNow_lt hA) n f t t1).1
    have hg : 1 ≤ g ∧ g < 32 := ⟨y5.1, by have := y5.2.1; omega⟩
    obtain ⟨u1, u2⟩ := (gp_two3 g hg.2).mp y6
    exact ⟨n, f, t, g, t1, ⟨u1, hg.2⟩, u2, (hMay_c hA.2.1 hH hc ht hg).mpr ⟨y5, y7, by rw [t4, e]; exact y8⟩, y9⟩
  · rintro ⟨n, f, t, g, t1, ⟨u1, g32⟩, u2, hmay, y9⟩
    have ht := (hQ_lt (aNow_lt hA) n f t t1).1
    obtain ⟨c1, c2⟩ := br_1 hA hH hc n f t t1
    obtain ⟨k1, k2, k3⟩ := (hMay_c hA.2.1 hH hc ht ⟨by omega, g32⟩).mp hmay
    exact ⟨_, t % 2, _, g, trivial, by omega, by omega, ⟨n, c2.symm, f, c1⟩, k1, (gp_two3 g g32).mpr ⟨u1, u2⟩, k2, k3, y9⟩
/-- left -/
theorem t_105 {K : Int32 → zI → zJ → Prop} {n0 : Nat} {c : zI} (hf : iFN fr nx) (hA : iA n0 m (tkOf cs)) (hR : cRu c m cs) (hS : cSc 1 c m)
    (h : ∀ c' T, fSr c c' → lfIs (mLook m (tkOf cs)) (aNow m) T → K (aLeftOf m T) c' lc) : TI (d + 6) 105 [.ref 0] (zCS ++ X) (zCR fr nx P) c lc K := by
  obtain ⟨q1, q2⟩ := iP_of hA.2.1
  have hi := (ruC_of hR.2.1).1
  refine TI_of (B_105 (t_65 (d := d + 3) (.inl rfl) hR hS (t_11 (d := d + 4) hR ⟨by omega, fun c3 e3 => ?_⟩)))
  obtain rfl : c3 = ruC m := by omega
  refine t_106 (d := d) hf hi hS hA.2.1 hA.2.2.2.1 hA.2.2.2.2.1 hR.2.2.2 hR.2.2.1 (clN_lt m cs) (fun c' T hs hT => ?_)
  have := h c' T hs (br_left hA hR.2.1 hR.2.2.1 hT)
  unfold aLeftOf at this
  rw [(n_msk _ q2).1] at this
  exact this
end LEFTS
