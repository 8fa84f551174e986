/-! The class: spread. -/
abbrev sPr (G : Nat → Prop) (Gs : List Nat) (C k K' g : Nat) : Prop := K' < C ∧ G g ∨ K' = C ∧ g ∈ Gs.take k
/-- what is come to by those gone through -/
def sSc (G : Nat → Prop) (Gs : List Nat) (F : Nat → Nat → Prop) (a C k K w : Nat) : Prop := ∃ K' g, F K' (w ^^^ g) ∧ sPr G Gs C k K' g ∧ gpN g &&& K' = 0 ∧ sdP a g w ∧ K = K' ||| gpN g
theorem mem_take_suc {Gs : List Nat} {k g : Nat} (hk : k < Gs.length) : g ∈ Gs.take (k + 1) ↔ g ∈ Gs.take k ∨ g = Gs.getD k 0 := by
  have e : Gs.take (k + 1) = Gs.take k ++ [Gs.getD k 0] := by
    rw [List.getD_eq_getElem?_getD, List.getElem?_eq_getElem hk]
    exact (List.take_append_getElem hk).symm
  rw [e, List.mem_append, List.mem_singleton]
theorem sSc_0 {G : Nat → Prop} {Gs : List Nat} {F : Nat → Nat → Prop} {a K w : Nat} : ¬ sSc G Gs F a 0 0 K w := by
  rintro ⟨K', g, -, h | h, -⟩
  · omega
  · simp at h
theorem sSc_next {G : Nat → Prop} {Gs : List Nat} {F : Nat → Nat → Prop} {a C k K w : Nat} (hm : ∀ g, g ∈ Gs ↔ G g) (h : ∀ g, F C (w ^^^ g) → G g → g ∈ Gs.take k) : sSc G Gs F a (C + 1) 0 K w ↔ sSc G Gs F a C k K w := by
  constructor
  · rintro ⟨K', g, h1, h2, h3⟩
    refine ⟨K', g, h1, ?_, h3⟩
    rcases h2 with ⟨q, q2⟩ | ⟨q, q2⟩
    · by_cases e : K' = C
      · subst e; exact .inr ⟨rfl, h g h1 q2⟩
      · exact .inl ⟨by omega, q2⟩
    · simp at q2
  · rintro ⟨K', g, h1, h2, h3⟩
    refine ⟨K', g, h1, ?_, h3⟩
    rcases h2 with ⟨q, q2⟩ | ⟨q, q2⟩
    · exact .inl ⟨by omega, q2⟩
    · exact .inl ⟨by omega, (hm g).mp (List.mem_of_mem_take q2)⟩
theorem sSc_suc {G : Nat → Prop} {Gs : List Nat} {F : Nat → Nat → Prop} {a C k K w : Nat} (hk : k < Gs.length) : sSc G Gs F a C (k + 1) K w ↔ sSc G Gs F a C k K w ∨ (F C (w ^^^ Gs.getD k 0) ∧ gpN (Gs.getD k 0) &&& C = 0 ∧ sdP a (Gs.getD k 0) w ∧ K = C ||| gpN (Gs.getD k 0)) := by
  constructor
  · rintro ⟨K', g, h1, h2, h3, h4, h5⟩
    rcases h2 with q | ⟨q, q2⟩
    · exact .inl ⟨K', g, h1, .inl q, h3, h4, h5⟩
    · subst q
      rcases (mem_take_suc hk).mp q2 with q2 | q2
      · exact .inl ⟨K', g, h1, .inr ⟨rfl, q2⟩, h3, h4, h5⟩
      · subst q2; exact .inr ⟨h1, h3, h4, h5⟩
  · rintro (⟨K', g, h1, h2, h3⟩ | ⟨h1, h3, h4, h5⟩)
    · refine ⟨K', g, h1, ?_, h3⟩
      rcases h2 with q | ⟨q, q2⟩
      · exact .inl q
      · exact .inr ⟨q, (mem_take_suc hk).mpr (.inl q2)⟩
    · exact ⟨C, _, h1, .inr ⟨rfl, (mem_take_suc hk).mpr (.inr rfl)⟩, h3, h4, h5⟩
theorem sSc_all {G : Nat → Prop} {Gs : List Nat} {F : Nat → Nat → Prop} {a C K w : Nat} (ha : a < 2) (hg32 : ∀ g, G g → g < 32) (hw : w < 32) (hF : ∀ K w, F K w → K < C) : sSc G Gs F a C 0 K w ↔ cS G F a K w := by
  constructor
  · rintro ⟨K', g, h1, h2, h3, h4, h5⟩
    rcases h2 with ⟨-, q2⟩ | ⟨q, q2⟩
    · exact ⟨K', w ^^^ g, g, h1, q2, h3, (sdP_x g (hg32 g q2) w hw a ha).mpr h4, h5, (xor_b w g).symm⟩
    · simp at q2
  · rintro ⟨K', w', g, h1, h2, h3, h4, h5, rfl⟩
    have h1' : F K' (w' ^^^ g ^^^ g) := by rw [xor_b]; exact h1
    refine ⟨K', g, h1', .inl ⟨hF _ _ h1, h2⟩, h3, ?_, h5⟩
    have := sdP_x g (hg32 g h2) _ hw a ha
    rw [xor_b] at this
    exact this.mp h4
def iSp (G : Nat → Prop) (Gs : List Nat) (F S0 : Nat → Nat → Prop) (fr nx a C k : Nat) (x : Int32) (c0 c : zI) : Prop :=
  rp c fr (fun K w => C ≤ K ∧ F K w) ∧ rp c nx (fun K w => sSc G Gs F a C k K w ∧ ¬ S0 K w) ∧ rp c (22 - a) (fun K w => S0 K w ∨ sSc G Gs F a C k K w) ∧
  (∀ w, w < 32 → (tB x w ↔ ∃ K, K < 1024 ∧ sSc G Gs F a C k K w ∧ ¬ S0 K w)) ∧ ∀ y K, y ≠ fr → y ≠ nx → y ≠ 22 - a → c y K = c0 y K
section SPREAD
variable {d : Nat} {X : zS} {fr nx : Nat} {P : zR0} {lc : zJ} {G : Nat → Prop} {Gs : List Nat} {F S0 : Nat → Nat → Prop} {a C : Nat} {c0 : zI}
theorem iSp_leave {k : Nat} {x : Int32} {c : zI} (hf : iFN fr nx) (ha : a < 2) (hm : ∀ g, g ∈ Gs ↔ G g) (h : ∀ g w, w < 32 → F C (w ^^^ g) → G g → g ∈ Gs.take k) (hI : iSp G Gs F S0 fr nx a C k x c0 c) : iSp G Gs F S0 fr nx a (C + 1) 0 x c0 (zu c fr C 0) := by
  obtain ⟨i1, i2, i3, i4, i5⟩ := hI
  have nxt : ∀ K w, w < 32 → (sSc G Gs F a (C + 1) 0 K w ↔ sSc G Gs F a C k K w) := fun K w hw => sSc_next hm (fun g => h g w hw)
  refine ⟨fun K hK w hw => ?_, fun K hK w hw => ?_, fun K hK w hw => ?_, fun w hw => ?_, fun y K h1 h2 h3 => ?_⟩
  · by_cases e : K = C
    · subst e
      rw [zu_eq]
      exact ⟨fun q => absurd q (tB_0 w), fun q => by omega⟩
    · rw [zu_nk e]
      exact (i1 K hK w hw).trans ⟨fun q => ⟨by omega, q.2⟩, fun q => ⟨by omega, q.2⟩⟩
  · show tB _ w ↔ (sSc G Gs F a (C + 1) 0 K w ∧ ¬ S0 K w)
    rw [zu_nc (by omega), nxt K w hw]; exact i2 K hK w hw
  · show tB _ w ↔ (S0 K w ∨ sSc G Gs F a (C + 1) 0 K w)
    rw [zu_nc (by omega), nxt K w hw]; exact i3 K hK w hw
  · rw [i4 w hw]
    exact ⟨fun ⟨K, k1, k2, k3⟩ => ⟨K, k1, (nxt K w hw).mpr k2, k3⟩, fun ⟨K, k1, k2, k3⟩ => ⟨K, k1, (nxt K w hw).mp k2, k3⟩⟩
  · rw [zu_nc h1]; exact i5 y K h1 h2 h3
theorem t_100_18 {Q : zQB} (hf : iFN fr nx) (ha : a < 2) (hC : C < 1024) (hGs : gAt c0 Gs) (hlen : Gs.length < 32) (hm : ∀ g, g ∈ Gs ↔ G g) (hg32 : ∀ g, G g → g < 32)
    (hnext : ∀ x c, iSp G Gs F S0 fr nx a (C + 1) 0 x c0 c → Wb (d + 2) 100 7 [.ref 17, .int (Int32.ofNat a), .int x, .int (Int32.ofNat (C + 1)), .retAddr 0, .retAddr 0, .retAddr 0] [] (zCS ++ X) (zCR fr nx P) c lc Q) :
    ∀ (j k : Nat) (x : Int32) (c : zI), k + j = Gs.length → iSp G Gs F S0 fr nx a C k x c0 c → Wb (d + 2) 100 18 [.ref 17, .int (Int32.ofNat a), .int x, .int (Int32.ofNat C), .int (Int32.ofNat k), .retAddr 0, .retAddr 0] [] (zCS ++ X) (zCR fr nx P) c lc Q
  | j, k, x, c, e, hI => by
    have hI' := hI
    obtain ⟨i1, i2, i3, i4, i5⟩ := hI'
    have e4 : c 17 4 = Int32.ofNat Gs.length := by rw [i5 17 4 (by omega) (by omega) (by omega)]; exact hGs.1
    have e19 : ∀ i, i < Gs.length → c 19 i = Int32.ofNat (Gs.getD i 0) := fun i hi => by rw [i5 19 i (by omega) (by omega) (by omega)]; exact hGs.2 i hi
    have hz := n_zin (k := C) (n := 1024) hC (by decide)
    have leave : (∀ g w, w < 32 → F C (w ^^^ g) → G g → g ∈ Gs.take k) → zin (Int32.ofNat C) 1024 = true ∧ Wb (d + 2) 100 7 [.ref 17, .int (Int32.ofNat a), .int x, .int (Int32.ofNat C + 1), .retAddr 0, .retAddr 0, .retAddr 0] [] (zCS ++ X) (zCR fr nx P) (zu c fr (Int32.ofNat C).toNatClampNeg 0) lc Q := fun h => by
      refine ⟨hz, ?_⟩
      rw [n_suc, n_cl (show C < 2147483648 by omega)]
      exact hnext x _ (iSp_leave hf ha hm h hI)
    refine B_100_18 _ _ _ _ hf ⟨fun q => leave ?_, fun q => ⟨fun q2 => absurd ((n_le (a := 32) (by decide) (by omega)).mp q2) (by omega), fun _ => ⟨hz, fun y => leave ?_, fun y => ?_⟩⟩⟩
    · rw [e4] at q
      have := (n_le (by omega) (by omega)).mp q
      intro g w hw _ hg
      rw [List.take_of_length_le (by omega)]
      exact (hm g).mpr hg
    · rw [n_cl (show C < 2147483648 by omega)] at y
      intro g w hw hF hg
      exfalso
      have := (i1 C hC (w ^^^ g) (xor_32 hw (hg32 g hg))).mpr ⟨Nat.le_refl _, hF⟩
      rw [y] at this
      exact tB_0 _ this
    · rw [e4] at q
      have hk : k < Gs.length := Nat.lt_of_not_le (fun z => q ((n_le (by omega) (by omega)).mpr z))
      obtain ⟨j, rfl⟩ : ∃ i, j = i + 1 := ⟨j - 1, by omega⟩
      have suc := fun K w => sSc_suc (G := G) (F := F) (a := a) (C := C) (K := K) (w := w) hk
      generalize hgd : Gs.getD k 0 = g at suc
      have hg : g < 32 := hg32 g ((hm g).mp (by
        rw [← hgd, List.getD_eq_getElem?_getD, List.getElem?_eq_getElem hk]
        exact List.getElem_mem hk))
      obtain ⟨p1, p2⟩ := gpN_ok g hg
      have hz19 := n_zin (k := k) (n := 32) (by omega) (by decide)
      have hKn : C ||| gpN g < 1024 := Nat.or_lt_two_pow (n := 10) hC p2
      refine ⟨hz19, ?_⟩
      rw [n_cl (show k < 2147483648 by omega), n_cl (show C < 2147483648 by omega), e19 k hk, hgd]
      have hand : gPairs g &&& Int32.ofNat C = 0 ↔ gpN g &&& C = 0 := by
        rw [p1, n_and]
        exact n_eq (b := 0) (Nat.lt_of_le_of_lt Nat.and_le_right (by omega)) (by decide)
      refine t_75 hg ⟨fun u => ?_, fun u => ⟨hz, hz19, ?_⟩⟩
      · rw [n_suc]
        refine t_100_18 hf ha hC hGs hlen hm hg32 hnext j (k + 1) x c (by omega) ⟨i1, rp_iff (fun K w => ?_) i2, rp_iff (fun K w => ?_) i3, fun w hw => (i4 w hw).trans ?_, i5⟩
        all_goals
          have nsu : ∀ K w, sSc G Gs F a C (k + 1) K w ↔ sSc G Gs F a C k K w := fun K w => (suc K w).trans ⟨fun z => z.elim id (fun z => absurd (hand.mpr z.2.1) u), .inl⟩
        · rw [nsu]
        · rw [nsu]
        · exact ⟨fun ⟨K, k1, k2, k3⟩ => ⟨K, k1, (nsu K w).mpr k2, k3⟩, fun ⟨K, k1, k2, k3⟩ => ⟨K, k1, (nsu K w).mp k2, k3⟩⟩
      · have hu : gpN g &&& C = 0 := hand.mp (Decidable.not_not.mp u)
        have e1a : (1 : Int32) - Int32.ofNat a = Int32.ofNat (1 - a) := n_sub (a := 1) (by omega)
        obtain ⟨z1, z2, z3⟩ := seen_row (X := X) (fr := fr) (nx := nx) (P := P) (b := 1 - a) (by omega)
        have e22 : 21 + (1 - a) = 22 - a := by omega
        rw [e22] at z1 z2 z3
        have hzs := n_zin (k := 1 - a) (n := 2) (by omega) (by decide)
        have hzk := n_zin (k := C ||| gpN g) (n := 1024) hKn (by decide)
        rw [e19 k hk, hgd]
        refine t_101 hg ha (fun v2 hv => ?_)
        rw [e1a, p1, n_or, n_cl (show 1 - a < 2147483648 by omega), n_cl (show C ||| gpN g < 2147483648 by omega), z1]
        refine ⟨hzs, by omega, fun c3 e3 => ?_⟩
        obtain rfl : c3 = 22 - a := by omega
        rw [z3]
        refine ⟨z2, hzk, hzk, hzk, hzs, by omega, fun c4 e4' => ?_⟩
        obtain rfl : c4 = 22 - a := by omega
        rw [z3]
        refine ⟨z2, hzk, z2, hzk, ?_⟩
        rw [n_suc]
        have hpl : ∀ w, w < 32 → (tB (v2 &&& (c (22 - a) (C ||| gpN g) ^^^ -1)) w ↔ (sdP a g w ∧ F C (w ^^^ g)) ∧ ¬ (S0 (C ||| gpN g) w ∨ sSc G Gs F a C k (C ||| gpN g) w)) := fun w hw => by
          rw [tB_and, tB_not hw, hv w hw, i3 _ hKn w hw, i1 C hC _ (xor_32 hw hg)]
          exact ⟨fun q => ⟨⟨q.1.1, q.1.2.2⟩, q.2⟩, fun q => ⟨⟨q.1.1, Nat.le_refl _, q.1.2⟩, q.2⟩⟩
        generalize v2 &&& (c (22 - a) (C ||| gpN g) ^^^ -1) = pl at hpl
        have nn : nx ≠ 22 - a := by omega
        have nf : fr ≠ 22 - a := by omega
        have nnf : fr ≠ nx := by omega
        refine t_100_18 hf ha hC hGs hlen hm hg32 hnext j (k + 1) (x ||| pl) _ (by omega) ⟨fun K hK w hw => ?_, fun K hK w hw => ?_, fun K hK w hw => ?_, fun w hw => ?_, fun y K h1 h2 h3 => ?_⟩
        · rw [zu_nc nf, zu_nc nnf]; exact i1 K hK w hw
        · show tB _ w ↔ (sSc G Gs F a C (k + 1) K w ∧ ¬ S0 K w)
          rw [zu_nc nn, suc K w]
          by_cases eK : K = C ||| gpN g
          · subst eK
            rw [zu_eq, tB_or, i2 _ hK w hw, hpl w hw]
            constructor
            · rintro (⟨q1, q2⟩ | ⟨q1, q2⟩)
              · exact ⟨.inl q1, q2⟩
              · exact ⟨.inr ⟨q1.2, hu, q1.1, rfl⟩, fun z => q2 (.inl z)⟩
            · rintro ⟨q1 | q1, q2⟩
              · exact .inl ⟨q1, q2⟩
              · by_cases z : sSc G Gs F a C k (C ||| gpN g) w
                · exact .inl ⟨z, q2⟩
                · exact .inr ⟨⟨q1.2.2.1, q1.1⟩, fun y => y.elim q2 z⟩
          · rw [zu_nk eK, i2 K hK w hw]
            exact ⟨fun q => ⟨.inl q.1, q.2⟩, fun q => ⟨q.1.elim id (fun z => absurd z.2.2.2 eK), q.2⟩⟩
        · show tB _ w ↔ (S0 K w ∨ sSc G Gs F a C (k + 1) K w)
          rw [suc K w]
          by_cases eK : K = C ||| gpN g
          · subst eK
            rw [zu_eq, zu_nc nn.symm, tB_or, i3 _ hK w hw, hpl w hw]
            constructor
            · rintro ((q | q) | ⟨q1, q2⟩)
              · exact .inl q
              · exact .inr (.inl q)
              · exact .inr (.inr ⟨q1.2, hu, q1.1, rfl⟩)
            · rintro (q | q | q)
              · exact .inl (.inl q)
              · exact .inl (.inr q)
              · by_cases z : S0 (C ||| gpN g) w ∨ sSc G Gs F a C k (C ||| gpN g) w
                · exact .inl z
                · exact .inr ⟨⟨q.2.2.1, q.1⟩, z⟩
          · rw [zu_nk eK, zu_nc nn.symm, i3 K hK w hw]
            exact ⟨fun q => q.elim .inl (fun z => .inr (.inl z)), fun q => q.elim .inl (fun z => z.elim .inr (fun z => absurd z.2.2.2 eK))⟩
        · rw [tB_or, i4 w hw, hpl w hw]
          constructor
          · rintro (⟨K, k1, k2, k3⟩ | ⟨q1, q2⟩)
            · exact ⟨K, k1, (suc K w).mpr (.inl k2), k3⟩
            · exact ⟨C ||| gpN g, hKn, (suc _ w).mpr (.inr ⟨q1.2, hu, q1.1, rfl⟩), fun z => q2 (.inl z)⟩
          · rintro ⟨K, k1, k2, k3⟩
            rcases (suc K w).mp k2 with k2 | k2
            · exact .inl ⟨K, k1, k2, k3⟩
            · obtain ⟨u1, u2, u3, rfl⟩ := k2
              by_cases z : sSc G Gs F a C k (C ||| gpN g) w
              · exact .inl ⟨_, k1, z, k3⟩
              · exact .inr ⟨⟨u3, u1⟩, fun y => y.elim k3 z⟩
        · rw [zu_nc h3, zu_nc h2]; exact i5 y K h1 h2 h3
end SPREAD
