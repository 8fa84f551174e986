/-! The class: spread, goBack, swapSteps. -/
theorem wb_call {d j i v j1 n : Nat} {L st args rest : List Value} {S : zS} {R : zR0} {mi : zI} {ml : zJ} {Q : zQB} {I : Instr} (hI : (zC j)[i]? = some I) (hs : zst I L st S R mi ml = none) (hj : zjp I i st = none) (hr : zrt (zM j).2.2 I st = none) (hv : zsite I = some v) (hn : (zV v).1 = n) (hle : n ≤ st.length) (ha : (st.take n).reverse = args) (hd : st.drop n = rest)
    (ht : ztg S v args = some j1) (hc : (rest.map fun v => v.category).sum ≤ 8) (hz : (zarg args).length ≤ (zM j1).1) (k : Tb d j1 args S R mi ml (fun r R1 mi1 ml1 => Wb (d + 1) j (i + 1) L (r.toList ++ rest) S R1 mi1 ml1 Q)) : Wb (d + 1) j i L st S R mi ml Q :=
  r_call hI hs hj hr hv hn hle ha hd ht hc hz (Wz.mono k (fun r S1 R1 mi1 ml1 ⟨e, q⟩ => by subst e; exact q))
theorem zCRl_set (fr nx : Nat) : zCRl fr nx = (zCRl 0 0).set 17 [19, 0, 0, 20, 0, 0, 21, fr + 1, nx + 1] := rfl
theorem zCR_swap (fr nx : Nat) (P : zR0) : zu (zu (zCR fr nx P) 17 7 (nx + 1)) 17 8 (fr + 1) = zCR nx fr P := by
  funext a b
  by_cases ha : a = 17
  · subst ha
    have e1 : ∀ f n : Nat, zCR f n P 17 b = (match zgl [19, 0, 0, 20, 0, 0, 21, f + 1, n + 1] b with | some v => v | none => 0) := fun f n => rfl
    by_cases h8 : b = 8
    · subst h8; rw [zu_eq]; rfl
    · rw [zu_nk h8]
      by_cases h7 : b = 7
      · subst h7; rw [zu_eq]; rfl
      · rw [zu_nk h7, e1, e1]
        have : b < 7 ∨ 9 ≤ b := by omega
        rcases this with h | h
        · have : b = 0 ∨ b = 1 ∨ b = 2 ∨ b = 3 ∨ b = 4 ∨ b = 5 ∨ b = 6 := by omega
          rcases this with rfl | rfl | rfl | rfl | rfl | rfl | rfl <;> rfl
        · rw [zgl_eq, zgl_eq, List.getElem?_eq_none (by simpa using h), List.getElem?_eq_none (by simpa using h)]
  · rw [zu_nc ha, zu_nc ha]
    unfold zCR
    rw [zCRl_set fr nx, zCRl_set nx fr, zgl_eq, zgl_eq, List.getElem?_set_ne (fun q => ha q.symm), List.getElem?_set_ne (fun q => ha q.symm)]
theorem iFN_sw {fr nx : Nat} (h : iFN fr nx) : iFN nx fr := by unfold iFN at *; omega
theorem xor_z {x y : Nat} (h : x ^^^ y = 0) : x = y := by
  have : (x ^^^ y) ^^^ y = 0 ^^^ y := by rw [h]
  rw [xor_b, Nat.zero_xor] at this
  exact this
theorem n_andnot {x y : Nat} (hx : x < 1024) : Int32.ofNat x &&& (Int32.ofNat y ^^^ -1) = 0 ↔ x &&& y = x := by
  rw [a_not, n_and, n_xor]
  have hlt : x ^^^ (x &&& y) < 1024 := Nat.xor_lt_two_pow (n := 10) hx (Nat.lt_of_le_of_lt Nat.and_le_left hx)
  have e : Int32.ofNat (x ^^^ (x &&& y)) = 0 ↔ x ^^^ (x &&& y) = 0 := n_eq (b := 0) (by omega) (by decide)
  rw [e]
  exact ⟨fun h => (xor_z h).symm, fun h => by rw [h, Nat.xor_self]⟩
theorem bt_1 {g K : Nat} (h : g &&& K = g) : g &&& (K ^^^ g) = 0 ∧ (K ^^^ g) ||| g = K := by
  have hb : ∀ i, (g.testBit i && K.testBit i) = g.testBit i := fun i => by rw [← Nat.testBit_and, h]
  constructor
  · apply Nat.eq_of_testBit_eq
    intro i
    have := hb i
    rw [Nat.testBit_and, Nat.testBit_xor, Nat.zero_testBit]
    revert this
    cases g.testBit i <;> cases K.testBit i <;> decide
  · apply Nat.eq_of_testBit_eq
    intro i
    have := hb i
    rw [Nat.testBit_or, Nat.testBit_xor]
    revert this
    cases g.testBit i <;> cases K.testBit i <;> decide
theorem bt_2 {g K : Nat} (h : g &&& K = 0) : g &&& (K ||| g) = g ∧ (K ||| g) ^^^ g = K := by
  have hb : ∀ i, (g.testBit i && K.testBit i) = false := fun i => by rw [← Nat.testBit_and, h, Nat.zero_testBit]
  constructor
  · apply Nat.eq_of_testBit_eq
    intro i
    have := hb i
    rw [Nat.testBit_and, Nat.testBit_or]
    revert this
    cases g.testBit i <;> cases K.testBit i <;> decide
  · apply Nat.eq_of_testBit_eq
    intro i
    have := hb i
    rw [Nat.testBit_xor, Nat.testBit_or]
    revert this
    cases g.testBit i <;> cases K.testBit i <;> decide
/-- what leads to those gone through -/
def sBk (G : Nat → Prop) (Gs : List Nat) (F : Nat → Nat → Prop) (a st C k K w : Nat) : Prop := ∃ K' g, F K' (w ^^^ g) ∧ sPr G Gs C k K' g ∧ gpN g &&& K' = gpN g ∧ gpN g &&& st = 0 ∧ sdP (1 - a) g w ∧ K = K' ^^^ gpN g
theorem sBk_0 {G : Nat → Prop} {Gs : List Nat} {F : Nat → Nat → Prop} {a st K w : Nat} : ¬ sBk G Gs F a st 0 0 K w := by
  rintro ⟨K', g, -, h | h, -⟩
  · omega
  · simp at h
theorem sBk_next {G : Nat → Prop} {Gs : List Nat} {F : Nat → Nat → Prop} {a st C k K w : Nat} (hm : ∀ g, g ∈ Gs ↔ G g) (h : ∀ g, F C (w ^^^ g) → G g → g ∈ Gs.take k) : sBk G Gs F a st (C + 1) 0 K w ↔ sBk G Gs F a st C k K w := by
  constructor
  · rintro ⟨K', g, h1, h2, h3⟩
    refine ⟨K', g, h1, ?_, h3⟩
    rcases h2 with ⟨q, q2⟩ | ⟨q, q2⟩
    · by_cases e : K' = C
      · subst e; exact .inr ⟨rfl, h g h1 q2⟩
      · exact .inl ⟨by omega, q2⟩
    · simp at q2
  · rintro ⟨K', g, h1, h2, h3⟩
    refine ⟨K', g, h1, ?_, h3⟩
    rcases h2 with ⟨q, q2⟩ | ⟨q, q2⟩
    · exact .inl ⟨by omega, q2⟩
    · exact .inl ⟨by omega, (hm g).mp (List.mem_of_mem_take q2)⟩
theorem sBk_suc {G : Nat → Prop} {Gs : List Nat} {F : Nat → Nat → Prop} {a st C k K w : Nat} (hk : k < Gs.length) : sBk G Gs F a st C (k + 1) K w ↔ sBk G Gs F a st C k K w ∨ (F C (w ^^^ Gs.getD k 0) ∧ gpN (Gs.getD k 0) &&& C = gpN (Gs.getD k 0) ∧ gpN (Gs.getD k 0) &&& st = 0 ∧ sdP (1 - a) (Gs.getD k 0) w ∧ K = C ^^^ gpN (Gs.getD k 0)) := by
  constructor
  · rintro ⟨K', g, h1, h2, h3, h4, h5⟩
    rcases h2 with q | ⟨q, q2⟩
    · exact .inl ⟨K', g, h1, .inl q, h3, h4, h5⟩
    · subst q
      rcases (mem_take_suc hk).mp q2 with q2 | q2
      · exact .inl ⟨K', g, h1, .inr ⟨rfl, q2⟩, h3, h4, h5⟩
      · subst q2; exact .inr ⟨h1, h3, h4, h5⟩
  · rintro (⟨K', g, h1, h2, h3⟩ | ⟨h1, h3, h4, h5⟩)
    · refine ⟨K', g, h1, ?_, h3⟩
      rcases h2 with q | ⟨q, q2⟩
      · exact .inl q
      · exact .inr ⟨q, (mem_take_suc hk).mpr (.inl q2)⟩
    · exact ⟨C, _, h1, .inr ⟨rfl, (mem_take_suc hk).mpr (.inr rfl)⟩, h3, h4, h5⟩
theorem sBk_all {G : Nat → Prop} {Gs : List Nat} {F : Nat → Nat → Prop} {a st C K w : Nat} (hF : ∀ K w, F K w → K < C) : sBk G Gs F a st C 0 K w ↔ ∃ g, G g ∧ gpN g &&& K = 0 ∧ gpN g &&& st = 0 ∧ sdP (1 - a) g w ∧ F (K ||| gpN g) (w ^^^ g) := by
  constructor
  · rintro ⟨K', g, h1, h2, h3, h4, h5, rfl⟩
    rcases h2 with ⟨-, q2⟩ | ⟨q, q2⟩
    · obtain ⟨b1, b2⟩ := bt_1 h3
      exact ⟨g, q2, b1, h4, h5, by rw [b2]; exact h1⟩
    · simp at q2
  · rintro ⟨g, h1, h2, h3, h4, h5⟩
    obtain ⟨b1, b2⟩ := bt_2 h2
    exact ⟨K ||| gpN g, g, h5, .inl ⟨hF _ _ h5, h1⟩, b1, h3, h4, b2.symm⟩
def iGb (G : Nat → Prop) (Gs : List Nat) (F : Nat → Nat → Prop) (fr nx a st C k : Nat) (c0 c : zI) : Prop :=
  rp c fr (fun K w => C ≤ K ∧ F K w) ∧ rp c nx (fun K w => sBk G Gs F a st C k K w) ∧ ∀ y K, y ≠ fr → y ≠ nx → c y K = c0 y K
section STEPS
variable {d : Nat} {X : zS} {fr nx : Nat} {P : zR0} {lc : zJ} {G : Nat → Prop} {Gs : List Nat} {F S0 : Nat → Nat → Prop} {a PS : Nat} {c0 : zI}
theorem t_102 {Q : zQB} {c : zI} (h : Q none (zCR nx fr P) c lc) : Tb (d + 1) 102 [.ref 17] (zCS ++ X) (zCR fr nx P) c lc Q := by
  refine r_run (j := 102) (i := 0) (L := [.ref 17, .retAddr 0]) (st := []) 10 (C := zC_102) (i1 := 10) (L1 := [.ref 17, .ref fr]) (st1 := []) (S1 := zCS ++ X) (R1 := zu (zu (zCR fr nx P) 17 7 (nx + 1)) 17 8 (fr + 1)) (mi1 := c) (ml1 := lc) rfl rfl ?_
  rw [zCR_swap]
  exact r_ret (I := .return_) rfl rfl rfl rfl ⟨rfl, h⟩
theorem t_100_7 {Q : zQB} (hf : iFN fr nx) (ha : a < 2) (hPS : PS ≤ 1024) (h5 : c0 17 5 = Int32.ofNat PS) (hGs : gAt c0 Gs) (hlen : Gs.length < 32) (hm : ∀ g, g ∈ Gs ↔ G g) (hg32 : ∀ g, G g → g < 32)
    (hx : ∀ x c, iSp G Gs F S0 fr nx a PS 0 x c0 c → Q (some (.int x)) (zCR nx fr P) c lc) :
    ∀ (j C : Nat) (x : Int32) (c : zI), C + j = PS → iSp G Gs F S0 fr nx a C 0 x c0 c → Wb (d + 2) 100 7 [.ref 17, .int (Int32.ofNat a), .int x, .int (Int32.ofNat C), .retAddr 0, .retAddr 0, .retAddr 0] [] (zCS ++ X) (zCR fr nx P) c lc Q
  | j, C, x, c, e, hI => by
    have e5 : c 17 5 = Int32.ofNat PS := by rw [hI.2.2.2.2 17 5 (by omega) (by omega) (by omega)]; exact h5
    have ends : C = PS → Wb (d + 2) 100 104 [.ref 17, .int (Int32.ofNat a), .int x, .int (Int32.ofNat C), .retAddr 0, .retAddr 0, .retAddr 0] [.ref 17] (zCS ++ X) (zCR fr nx P) c lc Q := fun q => by
      subst q
      exact wb_call (v := 105) (j1 := 102) (n := 1) (args := [.ref 17]) (rest := []) (I := .invokevirtual 105) rfl rfl rfl rfl rfl rfl (by decide) rfl rfl rfl (by decide) (by decide) (t_102 (d := d) (B_100_105 _ _ _ (iFN_sw hf) (hx x c hI)))
    refine B_100_7 _ _ _ hf ⟨fun q => ends ?_, fun q => ⟨fun q2 => ends ?_, fun q2 => ?_⟩⟩
    · rw [e5] at q
      have := (n_le (by omega) (by omega)).mp q
      omega
    · have := (n_le (a := 1024) (by decide) (by omega)).mp q2
      omega
    · rw [e5] at q
      have hlt : C < PS := Nat.lt_of_not_le (fun z => q ((n_le (by omega) (by omega)).mpr z))
      obtain ⟨j, rfl⟩ : ∃ i, j = i + 1 := ⟨j - 1, by omega⟩
      exact t_100_18 (d := d) hf ha (by omega) hGs hlen hm hg32 (fun x c hI => t_100_7 hf ha hPS h5 hGs hlen hm hg32 hx j (C + 1) x c (by omega) hI) Gs.length 0 x c (by omega) hI
theorem t_100 {Q : zQB} {c : zI} (hf : iFN fr nx) (ha : a < 2) (hPS : PS ≤ 1024) (h5 : c 17 5 = Int32.ofNat PS) (hGs : gAt c Gs) (hlen : Gs.length < 32) (hm : ∀ g, g ∈ Gs ↔ G g) (hg32 : ∀ g, G g → g < 32) (hF : ∀ K w, F K w → K < PS)
    (r1 : rp c fr F) (r2 : rp c nx (fun _ _ => False)) (r3 : rp c (22 - a) S0)
    (h : ∀ x c', rp c' fr (fun _ _ => False) → rp c' nx (fun K w => cS G F a K w ∧ ¬ S0 K w) → rp c' (22 - a) (fun K w => S0 K w ∨ cS G F a K w) → (∀ w, w < 32 → (tB x w ↔ ∃ K, K < 1024 ∧ cS G F a K w ∧ ¬ S0 K w)) → (∀ y K, y ≠ fr → y ≠ nx → y ≠ 22 - a → c' y K = c y K) → Q (some (.int x)) (zCR nx fr P) c' lc) :
    Tb (d + 2) 100 [.ref 17, .int (Int32.ofNat a)] (zCS ++ X) (zCR fr nx P) c lc Q := by
  refine B_100 _ hf (t_100_7 (c0 := c) (F := F) (S0 := S0) hf ha hPS h5 hGs hlen hm hg32 (fun x c' hI => ?_) PS 0 0 c (by omega) ⟨?_, ?_, ?_, fun w hw => ?_, fun _ _ _ _ _ => rfl⟩)
  · obtain ⟨i1, i2, i3, i4, i5⟩ := hI
    have all := fun K w (hw : w < 32) => sSc_all (G := G) (Gs := Gs) (K := K) ha hg32 hw hF
    refine h x c' (fun K hK w hw => (i1 K hK w hw).trans ⟨fun q => ?_, fun q => q.elim⟩) (fun K hK w hw => (i2 K hK w hw).trans ?_) (fun K hK w hw => (i3 K hK w hw).trans ?_) (fun w hw => (i4 w hw).trans ?_) i5
    · have := hF _ _ q.2
      omega
    · show (_ ∧ _) ↔ (_ ∧ _)
      rw [all K w hw]
    · show (_ ∨ _) ↔ (_ ∨ _)
      rw [all K w hw]
    · exact ⟨fun ⟨K, k1, k2, k3⟩ => ⟨K, k1, (all K w hw).mp k2, k3⟩, fun ⟨K, k1, k2, k3⟩ => ⟨K, k1, (all K w hw).mpr k2, k3⟩⟩
  · exact rp_iff (fun K w => ⟨fun q => ⟨Nat.zero_le _, q⟩, fun q => q.2⟩) r1
  · exact rp_iff (fun K w => ⟨fun q => q.elim, fun q => absurd q.1 sSc_0⟩) r2
  · exact rp_iff (fun K w => ⟨.inl, fun q => q.elim id (fun z => absurd z sSc_0)⟩) r3
  · exact ⟨fun q => absurd q (tB_0 w), fun ⟨K, k1, k2, k3⟩ => absurd k2 sSc_0⟩
theorem iGb_leave {st C k : Nat} {c : zI} (hf : iFN fr nx) (hm : ∀ g, g ∈ Gs ↔ G g) (h : ∀ g w, w < 32 → F C (w ^^^ g) → G g → g ∈ Gs.take k) (hI : iGb G Gs F fr nx a st C k c0 c) : iGb G Gs F fr nx a st (C + 1) 0 c0 (zu c fr C 0) := by
  obtain ⟨i1, i2, i5⟩ := hI
  have nxt : ∀ K w, w < 32 → (sBk G Gs F a st (C + 1) 0 K w ↔ sBk G Gs F a st C k K w) := fun K w hw => sBk_next hm (fun g => h g w hw)
  refine ⟨fun K hK w hw => ?_, fun K hK w hw => ?_, fun y K h1 h2 => ?_⟩
  · by_cases e : K = C
    · subst e
      rw [zu_eq]
      exact ⟨fun q => absurd q (tB_0 w), fun q => by omega⟩
    · rw [zu_nk e]
      exact (i1 K hK w hw).trans ⟨fun q => ⟨by omega, q.2⟩, fun q => ⟨by omega, q.2⟩⟩
  · show tB _ w ↔ sBk G Gs F a st (C + 1) 0 K w
    rw [zu_nc (by omega), nxt K w hw]; exact i2 K hK w hw
  · rw [zu_nc h1]; exact i5 y K h1 h2
theorem t_104_14 {Q : zQB} {st C : Nat} (hf : iFN fr nx) (ha : a < 2) (hC : C < 1024) (hGs : gAt c0 Gs) (hlen : Gs.length < 32) (hm : ∀ g, g ∈ Gs ↔ G g) (hg32 : ∀ g, G g → g < 32)
    (hnext : ∀ c, iGb G Gs F fr nx a st (C + 1) 0 c0 c → Wb (d + 2) 104 4 [.ref 17, .int (Int32.ofNat a), .int (Int32.ofNat st), .int (Int32.ofNat (C + 1)), .retAddr 0, .retAddr 0] [] (zCS ++ X) (zCR fr nx P) c lc Q) :
    ∀ (j k : Nat) (c : zI), k + j = Gs.length → iGb G Gs F fr nx a st C k c0 c → Wb (d + 2) 104 14 [.ref 17, .int (Int32.ofNat a), .int (Int32.ofNat st), .int (Int32.ofNat C), .int (Int32.ofNat k), .retAddr 0] [] (zCS ++ X) (zCR fr nx P) c lc Q
  | j, k, c, e, hI => by
    have hI' := hI
    obtain ⟨i1, i2, i5⟩ := hI'
    have e4 : c 17 4 = Int32.ofNat Gs.length := by rw [i5 17 4 (by omega) (by omega)]; exact hGs.1
    have e19 : ∀ i, i < Gs.length → c 19 i = Int32.ofNat (Gs.getD i 0) := fun i hi => by rw [i5 19 i (by omega) (by omega)]; exact hGs.2 i hi
    have hz := n_zin (k := C) (n := 1024) hC (by decide)
    have leave : (∀ g w, w < 32 → F C (w ^^^ g) → G g → g ∈ Gs.take k) → zin (Int32.ofNat C) 1024 = true ∧ Wb (d + 2) 104 4 [.ref 17, .int (Int32.ofNat a), .int (Int32.ofNat st), .int (Int32.ofNat C + 1), .retAddr 0, .retAddr 0] [] (zCS ++ X) (zCR fr nx P) (zu c fr (Int32.ofNat C).toNatClampNeg 0) lc Q := fun h => by
      refine ⟨hz, ?_⟩
      rw [n_suc, n_cl (show C < 2147483648 by omega)]
      exact hnext _ (iGb_leave hf hm h hI)
    refine B_104_14 _ _ _ _ hf ⟨fun q => leave ?_, fun q => ⟨fun q2 => absurd ((n_le (a := 32) (by decide) (by omega)).mp q2) (by omega), fun _ => ⟨hz, fun y => leave ?_, fun y => ?_⟩⟩⟩
    · rw [e4] at q
      have := (n_le (by omega) (by omega)).mp q
      intro g w hw _ hg
      rw [List.take_of_length_le (by omega)]
      exact (hm g).mpr hg
    · rw [n_cl (show C < 2147483648 by omega)] at y
      intro g w hw hF hg
      exfalso
      have := (i1 C hC (w ^^^ g) (xor_32 hw (hg32 g hg))).mpr ⟨Nat.le_refl _, hF⟩
      rw [y] at this
      exact tB_0 _ this
    · rw [e4] at q
      have hk : k < Gs.length := Nat.lt_of_not_le (fun z => q ((n_le (by omega) (by omega)).mpr z))
      obtain ⟨j, rfl⟩ : ∃ i, j = i + 1 := ⟨j - 1, by omega⟩
      have suc := fun K w => sBk_suc (G := G) (F := F) (a := a) (st := st) (C := C) (K := K) (w := w) hk
      generalize hgd : Gs.getD k 0 = g at suc
      have hg : g < 32 := hg32 g ((hm g).mp (by
        rw [← hgd, List.getD_eq_getElem?_getD, List.getElem?_eq_getElem hk]
        exact List.getElem_mem hk))
      obtain ⟨p1, p2⟩ := gpN_ok g hg
      have hz19 := n_zin (k := k) (n := 32) (by omega) (by decide)
      refine ⟨hz19, ?_⟩
      rw [n_cl (show k < 2147483648 by omega), n_cl (show C < 2147483648 by omega), e19 k hk, hgd]
      have skip : ¬ (gpN g &&& C = gpN g ∧ gpN g &&& st = 0) → Wb (d + 2) 104 14 [.ref 17, .int (Int32.ofNat a), .int (Int32.ofNat st), .int (Int32.ofNat C), .int (Int32.ofNat k + 1), .retAddr 0] [] (zCS ++ X) (zCR fr nx P) c lc Q := fun u => by
        rw [n_suc]
        refine t_104_14 hf ha hC hGs hlen hm hg32 hnext j (k + 1) c (by omega) ⟨i1, rp_iff (fun K w => ?_) i2, i5⟩
        exact ⟨fun z => (suc K w).mpr (.inl z), fun z => ((suc K w).mp z).elim id (fun z => absurd ⟨z.2.1, z.2.2.1⟩ u)⟩
      have hand : gPairs g &&& Int32.ofNat st = 0 ↔ gpN g &&& st = 0 := by
        rw [p1, n_and]
        exact n_eq (b := 0) (Nat.lt_of_le_of_lt Nat.and_le_left (by omega)) (by decide)
      have hnot : gPairs g &&& (Int32.ofNat C ^^^ -1) = 0 ↔ gpN g &&& C = gpN g := by rw [p1]; exact n_andnot p2
      refine t_75 hg ⟨fun u => skip (fun z => u (hnot.mpr z.1)), fun u => ⟨fun v => skip (fun z => v (hand.mpr z.2)), fun v => ?_⟩⟩
      have hu := hnot.mp (Decidable.not_not.mp u)
      have hv := hand.mp (Decidable.not_not.mp v)
      have hKn : C ^^^ gpN g < 1024 := Nat.xor_lt_two_pow (n := 10) hC p2
      have hzk := n_zin (k := C ^^^ gpN g) (n := 1024) hKn (by decide)
      have e1a : (1 : Int32) - Int32.ofNat a = Int32.ofNat (1 - a) := n_sub (a := 1) (by omega)
      rw [p1, n_xor]
      refine ⟨hzk, hz, hz19, ?_⟩
      rw [e19 k hk, hgd, e1a]
      refine t_101 hg (by omega) (fun v2 hv2 => ⟨hzk, ?_⟩)
      rw [n_cl (show C ^^^ gpN g < 2147483648 by omega), n_suc]
      have nnf : fr ≠ nx := by omega
      refine t_104_14 hf ha hC hGs hlen hm hg32 hnext j (k + 1) _ (by omega) ⟨fun K hK w hw => ?_, fun K hK w hw => ?_, fun y K h1 h2 => ?_⟩
      · rw [zu_nc nnf]; exact i1 K hK w hw
      · show tB _ w ↔ sBk G Gs F a st C (k + 1) K w
        rw [suc K w]
        by_cases eK : K = C ^^^ gpN g
        · subst eK
          rw [zu_eq, tB_or, i2 _ hK w hw, hv2 w hw, i1 C hC _ (xor_32 hw hg)]
          exact ⟨fun q => q.elim .inl (fun z => .inr ⟨z.2.2, hu, hv, z.1, rfl⟩), fun q => q.elim .inl (fun z => .inr ⟨z.2.2.2.1, Nat.le_refl _, z.1⟩)⟩
        · rw [zu_nk eK, i2 K hK w hw]
          exact ⟨.inl, fun q => q.elim id (fun z => absurd z.2.2.2.2 eK)⟩
      · rw [zu_nc h2]; exact i5 y K h1 h2
theorem t_104_4 {Q : zQB} {st : Nat} (hf : iFN fr nx) (ha : a < 2) (hPS : PS ≤ 1024) (h5 : c0 17 5 = Int32.ofNat PS) (hGs : gAt c0 Gs) (hlen : Gs.length < 32) (hm : ∀ g, g ∈ Gs ↔ G g) (hg32 : ∀ g, G g → g < 32)
    (hx : ∀ c, iGb G Gs F fr nx a st PS 0 c0 c → Q none (zCR nx fr P) c lc) :
    ∀ (j C : Nat) (c : zI), C + j = PS → iGb G Gs F fr nx a st C 0 c0 c → Wb (d + 2) 104 4 [.ref 17, .int (Int32.ofNat a), .int (Int32.ofNat st), .int (Int32.ofNat C), .retAddr 0, .retAddr 0] [] (zCS ++ X) (zCR fr nx P) c lc Q
  | j, C, c, e, hI => by
    have e5 : c 17 5 = Int32.ofNat PS := by rw [hI.2.2 17 5 (by omega) (by omega)]; exact h5
    have ends : C = PS → Wb (d + 2) 104 75 [.ref 17, .int (Int32.ofNat a), .int (Int32.ofNat st), .int (Int32.ofNat C), .retAddr 0, .retAddr 0] [.ref 17] (zCS ++ X) (zCR fr nx P) c lc Q := fun q => by
      subst q
      exact wb_call (v := 105) (j1 := 102) (n := 1) (args := [.ref 17]) (rest := []) (I := .invokevirtual 105) rfl rfl rfl rfl rfl rfl (by decide) rfl rfl rfl (by decide) (by decide) (t_102 (d := d) (B_104_76 _ _ _ (iFN_sw hf) (hx c hI)))
    refine B_104_4 _ _ _ hf ⟨fun q => ends ?_, fun q => ⟨fun q2 => ends ?_, fun q2 => ?_⟩⟩
    · rw [e5] at q
      have := (n_le (by omega) (by omega)).mp q
      omega
    · have := (n_le (a := 1024) (by decide) (by omega)).mp q2
      omega
    · rw [e5] at q
      have hlt : C < PS := Nat.lt_of_not_le (fun z => q ((n_le (by omega) (by omega)).mpr z))
      obtain ⟨j, rfl⟩ : ∃ i, j = i + 1 := ⟨j - 1, by omega⟩
      exact t_104_14 (d := d) hf ha (by omega) hGs hlen hm hg32 (fun c hI => t_104_4 hf ha hPS h5 hGs hlen hm hg32 hx j (C + 1) c (by omega) hI) Gs.length 0 c (by omega) hI
theorem t_104 {Q : zQB} {st : Nat} {c : zI} (hf : iFN fr nx) (ha : a < 2) (hPS : PS ≤ 1024) (h5 : c 17 5 = Int32.ofNat PS) (hGs : gAt c Gs) (hlen : Gs.length < 32) (hm : ∀ g, g ∈ Gs ↔ G g) (hg32 : ∀ g, G g → g < 32) (hF : ∀ K w, F K w → K < PS)
    (r1 : rp c fr F) (r2 : rp c nx (fun _ _ => False))
    (h : ∀ c', rp c' fr (fun _ _ => False) → rp c' nx (fun K w => ∃ g, G g ∧ gpN g &&& K = 0 ∧ gpN g &&& st = 0 ∧ sdP (1 - a) g w ∧ F (K ||| gpN g) (w ^^^ g)) → (∀ y K, y ≠ fr → y ≠ nx → c' y K = c y K) → Q none (zCR nx fr P) c' lc) :
    Tb (d + 2) 104 [.ref 17, .int (Int32.ofNat a), .int (Int32.ofNat st)] (zCS ++ X) (zCR fr nx P) c lc Q := by
  refine B_104 _ _ hf (t_104_4 (c0 := c) (F := F) hf ha hPS h5 hGs hlen hm hg32 (fun c' hI => ?_) PS 0 c (by omega) ⟨?_, ?_, fun _ _ _ _ => rfl⟩)
  · obtain ⟨i1, i2, i5⟩ := hI
    refine h c' (fun K hK w hw => (i1 K hK w hw).trans ⟨fun q => ?_, fun q => q.elim⟩) (fun K hK w hw => (i2 K hK w hw).trans (sBk_all hF)) i5
    have := hF _ _ q.2
    omega
  · exact rp_iff (fun K w => ⟨fun q => ⟨Nat.zero_le _, q⟩, fun q => q.2⟩) r1
  · exact rp_iff (fun K w => ⟨fun q => q.elim, fun q => absurd q sBk_0⟩) r2
end STEPS
