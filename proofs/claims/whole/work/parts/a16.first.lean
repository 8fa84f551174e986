/-! The class: firstOfRow, seekHome. -/
theorem gl_srt {S : Nat → Prop} [DecidablePred S] : ∀ n, (gl S n).Pairwise (· < ·)
  | 0 => List.Pairwise.nil
  | n + 1 => by
    rw [gl_suc]
    split
    · rw [List.pairwise_append]
      refine ⟨gl_srt n, List.pairwise_singleton _ _, fun a ha b hb => ?_⟩
      rw [List.mem_singleton] at hb
      subst hb
      exact ((gl_mem S a b).mp ha).1
    · exact gl_srt n
theorem srt_min {Gs : List Nat} {k g : Nat} (hs : Gs.Pairwise (· < ·)) (hk : k < Gs.length) (hg : g ∈ Gs) (hn : g ∉ Gs.take k) : Gs.getD k 0 ≤ g := by
  rw [← List.take_append_drop k Gs, List.mem_append] at hg
  have hd : g ∈ Gs.drop k := hg.elim (fun z => absurd z hn) id
  have hp : (Gs.drop k).Pairwise (· < ·) := List.Pairwise.sublist (List.drop_sublist k Gs) hs
  rw [List.getD_eq_getElem?_getD, List.getElem?_eq_getElem hk]
  rw [List.drop_eq_getElem_cons hk] at hd hp
  show Gs[k] ≤ g
  rcases List.mem_cons.mp hd with e | e
  · rw [e]; exact Nat.le_refl _
  · exact Nat.le_of_lt ((List.pairwise_cons.mp hp).1 g e)
theorem n_side {b s : Nat} (hb : b < 2) (hs : s < 100) : ((Int32.ofNat b + Int32.ofNat (s + 1)) - 1) &&& 1 = Int32.ofNat ((b + s) % 2) := by
  rw [n_add]
  have e : Int32.ofNat (b + (s + 1)) - 1 = Int32.ofNat (b + s) := n_sub (b := 1) (by omega)
  rw [e]
  show Int32.ofNat (b + s) &&& Int32.ofNat 1 = _
  rw [n_and, show (1 : Nat) = 2 ^ 1 - 1 from rfl, Nat.and_two_pow_sub_one_eq_mod]
/-- home by the class's ways -/
def cHm (G : Nat → Prop) (K0 w0 a0 W : Nat) (n f : Int32) : Prop :=
  (n = -5 ∧ f = -5 ∧ ∀ N K, N ≤ 30 → ¬ cD G K0 w0 a0 N K W) ∨
  ∃ N F : Nat, N ≤ 30 ∧ n = Int32.ofNat N ∧ f = Int32.ofNat F ∧ (∃ K, cQ G K0 w0 a0 N F K W) ∧ ∀ N' F' K, cQ G K0 w0 a0 N' F' K W → N ≤ N' ∧ (N' = N → F ≤ F')
theorem cB_lt {G : Nat → Prop} {K0 w0 a0 N W p : Nat} (hp : p < 6) (hG : ∀ g, G g → g < 2 ^ p) (hK : K0 < 2 ^ sTri p) (hw : w0 < 2 ^ p) : ∀ r K w, cB G K0 w0 a0 N W r K w → K < 2 ^ sTri p
  | 0, K, w, ⟨⟨f, h⟩, _⟩ => (cQ_ok hp hG hK hw N f K w h).1
  | r + 1, K, w, ⟨g, _, _, _, _, h⟩ => Nat.lt_of_le_of_lt Nat.left_le_or (cB_lt hp hG hK hw r _ _ h)
section FIRST
variable {d : Nat} {X : zS} {P : zR0} {lc : zJ} {G : Nat → Prop} {Gs : List Nat} {m : zI} {cs : List pCl} {st N W : Nat}
theorem t_99 {fr nx : Nat} {K : Int32 → zI → zJ → Prop} {c : zI} {s : Nat} (hS : cSc 1 c m) (hb : iB m) (hs : s < 100) (h : K (Int32.ofNat ((mBo m + s) % 2)) c lc) : TI (d + 1) 99 [.ref 1, .int (Int32.ofNat (s + 1))] (zCS ++ X) (zCR fr nx P) c lc K := by
  obtain ⟨b1, b2⟩ := mBo_of hb
  refine TI_of (B_99 1 _ (.inl rfl) ?_)
  rw [hS.2.2.2.1, b1, n_side b2 hs]
  exact h
/-- what stays while one searches -/
def iSt (Gs : List Nat) (p : Nat) (c0 c : zI) : Prop := gAt c Gs ∧ c 17 5 = Int32.ofNat (2 ^ sTri p) ∧ fSr c0 c ∧ c 17 9 = c0 17 9
theorem iSt_of {p a b : Nat} {c0 c c' : zI} (ha : a = 23 ∨ a = 24) (hb : b = 23 ∨ b = 24) (h : ∀ y K, y ≠ a → y ≠ b → c' y K = c y K) (q : iSt Gs p c0 c) : iSt Gs p c0 c' := by
  obtain ⟨⟨q1, q2⟩, q3, q4, q9⟩ := q
  refine ⟨⟨by rw [h 17 4 (by omega) (by omega)]; exact q1, fun i hi => by rw [h 19 i (by omega) (by omega)]; exact q2 i hi⟩, by rw [h 17 5 (by omega) (by omega)]; exact q3, fun x k z1 z2 z3 z4 z5 z6 => ?_, by rw [h 17 9 (by omega) (by omega)]; exact q9⟩
  rw [h x k (by omega) (by omega)]
  exact q4 x k z1 z2 z3 z4 z5 z6
theorem iSt_sc {p : Nat} {c0 c : zI} (hS : cSc 1 c0 m) (q : iSt Gs p c0 c) : cSc 1 c m :=
  cSc_eq (fun k _ => q.2.2.1 1 k (by omega) (by decide) (by decide) (by decide) (by decide) (by decide)) (fun k _ => q.2.2.1 2 k (by omega) (by decide) (by decide) (by decide) (by decide) (by decide)) hS
theorem t_103_48 {fr nx : Nat} {Q : zQB} {c0 : zI} {F : Nat → Nat → Prop} (hf : iFN fr nx) (hS : cSc 1 c0 m) (hp : iP m) (hb : iB m) (hw : iW m) (hst : st < 1024) (hGs : Gs.Pairwise (· < ·)) (hlen : Gs.length < 32) (hg32 : ∀ g, g ∈ Gs → 1 ≤ g ∧ g < 2 ^ mPe m)
    (c : zI) (hI : iSt Gs (mPe m) c0 c) (hF : rp c fr F) (hex : ∃ g, g ∈ Gs ∧ gpN g &&& st = 0 ∧ sdP (1 - mBo m) g (mW m) ∧ F (st ||| gpN g) (mW m ^^^ g))
    (h : ∀ g, g ∈ Gs → gpN g &&& st = 0 → sdP (1 - mBo m) g (mW m) → F (st ||| gpN g) (mW m ^^^ g) → (∀ g', g' ∈ Gs → gpN g' &&& st = 0 → sdP (1 - mBo m) g' (mW m) → F (st ||| gpN g') (mW m ^^^ g') → g ≤ g') → Q (some (.int (Int32.ofNat g))) (zCR fr nx P) c lc) :
    ∀ (j k : Nat), k + j = Gs.length → (∀ g, g ∈ Gs.take k → ¬ (gpN g &&& st = 0 ∧ sdP (1 - mBo m) g (mW m) ∧ F (st ||| gpN g) (mW m ^^^ g))) →
      Wb (d + 3) 103 48 [.ref 17, .ref 1, .int (Int32.ofNat st), .retAddr 0, .int (Int32.ofNat k), .retAddr 0, .retAddr 0, .retAddr 0] [] (zCS ++ X) (zCR fr nx P) c lc Q
  | 0, k, e, hn => by
    obtain ⟨g, g1, g2⟩ := hex
    rw [List.take_of_length_le (by omega)] at hn
    exact absurd g2 (hn g g1)
  | j + 1, k, e, hn => by
    have hk : k < Gs.length := by omega
    obtain ⟨q1, q2⟩ := iP_of hp
    obtain ⟨b1, b2⟩ := mBo_of hb
    have pw := pow_tri _ hp
    have w32 : mW m < 32 := by have := hw.2; omega
    have suc := fun g => mem_take_suc (Gs := Gs) (k := k) (g := g) hk
    have hmem : Gs.getD k 0 ∈ Gs := by
      rw [List.getD_eq_getElem?_getD, List.getElem?_eq_getElem hk]
      exact List.getElem_mem hk
    have hmin := fun g hg hn => srt_min (g := g) hGs hk hg hn
    have e19 := hI.1.2 k hk
    generalize Gs.getD k 0 = g at suc hmem hmin e19
    obtain ⟨g1, g2⟩ := hg32 g hmem
    have hg : g < 32 := by omega
    obtain ⟨p1, p2⟩ := gpN_ok g hg
    have hz19 := n_zin (k := k) (n := 32) (by omega) (by decide)
    have hKn : st ||| gpN g < 1024 := Nat.or_lt_two_pow (n := 10) hst p2
    have hSc := iSt_sc hS hI
    have hand : gPairs g &&& Int32.ofNat st = 0 ↔ gpN g &&& st = 0 := by
      rw [p1, n_and]
      exact n_eq (b := 0) (Nat.lt_of_le_of_lt Nat.and_le_right (by omega)) (by decide)
    have hhN : hN m < 32 := by have := hN_lt hp hw; omega
    have hsub : Int32.ofNat g &&& (Int32.ofNat (hN m) ^^^ -1) = 0 ↔ sdP (1 - mBo m) g (mW m) := by
      rw [sub_tab g hg _ hhN, hN_sub hp hb hw hg, hw.1, b1, sdP_th g hg _ w32 _ b2]
      exact ⟨fun z => z.2, fun z => ⟨g2, z⟩⟩
    have skip : ¬ (gpN g &&& st = 0 ∧ sdP (1 - mBo m) g (mW m) ∧ F (st ||| gpN g) (mW m ^^^ g)) → Wb (d + 3) 103 48 [.ref 17, .ref 1, .int (Int32.ofNat st), .retAddr 0, .int (Int32.ofNat k + 1), .retAddr 0, .retAddr 0, .retAddr 0] [] (zCS ++ X) (zCR fr nx P) c lc Q := fun u => by
      rw [n_suc]
      refine t_103_48 hf hS hp hb hw hst hGs hlen hg32 c hI hF hex h j (k + 1) (by omega) (fun g' hg' => ?_)
      rcases (suc g').mp hg' with z | z
      · exact hn g' z
      · rw [z]; exact u
    refine B_103_48 1 _ _ (.inl rfl) hf ⟨fun q => ?_, fun _ => ⟨fun q => absurd ((n_le (a := 32) (by decide) (by omega)).mp q) (by omega), fun _ => ⟨hz19, ?_⟩⟩⟩
    · rw [hI.1.1] at q
      exact absurd ((n_le (by omega) (by omega)).mp q) (by omega)
    · rw [n_cl (show k < 2147483648 by omega), e19]
      refine t_75 hg ⟨hz19, hz19, t_66 (.inl rfl) hSc hp hb hw ?_⟩
      rw [e19]
      refine ⟨fun u => skip (fun z => u (hsub.mpr z.2.1)), fun u => ⟨fun v => skip (fun z => v (hand.mpr z.1)), fun v => ?_⟩⟩
      have hu := hsub.mp (Decidable.not_not.mp u)
      have hv := hand.mp (Decidable.not_not.mp v)
      rw [p1, n_or, n_cl (show st ||| gpN g < 2147483648 by omega), hSc.2.1, hw.1, n_xor]
      have hb0 := tB_bit0 (c fr (st ||| gpN g)) (xor_32 w32 hg)
      have hFb := hF _ hKn _ (xor_32 w32 hg)
      refine ⟨n_zin hKn (by decide), fun y => skip (fun z => hb0.mp y (hFb.mpr z.2.2)), fun y => ⟨hz19, ?_⟩⟩
      have hy : F (st ||| gpN g) (mW m ^^^ g) := hFb.mp (Classical.byContradiction fun z => y (hb0.mpr z))
      refine h g hmem hv hu hy (fun g' h1 h2 h3 h4 => hmin g' h1 (fun z => hn g' z ⟨h2, h3, h4⟩))
theorem t_103_31 {Q : zQB} {c0 : zI} (hS : cSc 1 c0 m) (hp : iP m) (hb : iB m) (hw : iW m) (hst : st < 2 ^ sTri (mPe m)) (hm : ∀ g, g ∈ Gs ↔ G g) (hGs : Gs.Pairwise (· < ·)) (hlen : Gs.length < 32) (hg32 : ∀ g, G g → 1 ≤ g ∧ g < 2 ^ mPe m) (hN : N ≤ 30)
    (hex : ∃ g K, cQ G st (mW m) (mBo m) N g K W)
    (h : ∀ fr nx c g, iFN fr nx → iSt Gs (mPe m) c0 c → (∃ K, cQ G st (mW m) (mBo m) N g K W) → (∀ g' K, cQ G st (mW m) (mBo m) N g' K W → g ≤ g') → Q (some (.int (Int32.ofNat g))) (zCR fr nx P) c lc) :
    ∀ (s fr nx : Nat) (c : zI), iFN fr nx → s + 1 ≤ N → iSt Gs (mPe m) c0 c → rp c fr (cB G st (mW m) (mBo m) N W (N - (s + 1))) → rp c nx (fun _ _ => False) →
      Wb (d + 3) 103 31 [.ref 17, .ref 1, .int (Int32.ofNat st), .retAddr 0, .int (Int32.ofNat (s + 1)), .retAddr 0, .retAddr 0, .retAddr 0] [] (zCS ++ X) (zCR fr nx P) c lc Q
  | 0, fr, nx, c, hf, hs, hI, r1, r2 => by
    obtain ⟨q1, q2⟩ := iP_of hp
    obtain ⟨b1, b2⟩ := mBo_of hb
    obtain ⟨t1, t2⟩ := tri_1024 q2
    have bm : mBo m % 2 = mBo m := Nat.mod_eq_of_lt b2
    have cf := fun g => cB_first (G := G) (K0 := st) (w0 := mW m) (a0 := mBo m) (N := N) (W := W) (g := g) (by omega)
    rw [bm] at cf
    refine B_103_31 1 _ _ (.inl rfl) hf ⟨fun _ => ?_, fun q => absurd (show Int32.ofNat (0 + 1) ≤ 1 by decide) q⟩
    refine t_103_48 (d := d) hf hS hp hb hw (by omega) hGs hlen (fun g hg => hg32 g ((hm g).mp hg)) c hI r1 ?_ (fun g h1 h2 h3 h4 h5 => ?_) Gs.length 0 (by omega) (fun g hg => by simp at hg)
    · obtain ⟨g, K, hq⟩ := hex
      obtain ⟨f1, f2, f3, f4⟩ := (cf g).mp ⟨K, hq⟩
      exact ⟨g, (hm g).mpr f1, f2, f3, f4⟩
    · refine h fr nx c g hf hI ((cf g).mpr ⟨(hm g).mp h1, h2, h3, h4⟩) (fun g' K hq => ?_)
      obtain ⟨f1, f2, f3, f4⟩ := (cf g').mp ⟨K, hq⟩
      exact h5 g' ((hm g').mpr f1) f2 f3 f4
  | s + 1, fr, nx, c, hf, hs, hI, r1, r2 => by
    obtain ⟨q1, q2⟩ := iP_of hp
    obtain ⟨t1, t2⟩ := tri_1024 q2
    have g32 : ∀ g, G g → g < 32 := fun g hg => by
      have := (hg32 g hg).2
      have l32 : 2 ^ mPe m ≤ 2 ^ 5 := Nat.pow_le_pow_right (by decide) (by omega)
      omega
    refine B_103_31 1 _ _ (.inl rfl) hf ⟨fun q => absurd ((n_le (b := 1) (by omega) (by decide)).mp q) (by omega), fun _ => t_99 (d := d + 1) (iSt_sc hS hI) hb (by omega) ?_⟩
    refine wb_call (v := 106) (j1 := 104) (n := 3) (args := [.ref 17, .int (Int32.ofNat ((mBo m + (s + 1)) % 2)), .int (Int32.ofNat st)]) (rest := []) (I := .invokevirtual 106) rfl rfl rfl rfl rfl rfl (Nat.le_refl 3) rfl rfl rfl (by decide) (show 3 ≤ 6 by decide) ?_
    refine t_104 (d := d) (G := G) hf (Nat.mod_lt _ (by decide)) t1 hI.2.1 hI.1 hlen hm g32 (cB_lt q2 (fun g hg => (hg32 g hg).2) hst hw.2 _) r1 r2 (fun c' e1 e2 e3 => ?_)
    refine B_103_40 1 _ _ (.inl rfl) (iFN_sw hf) ?_
    have em : Int32.ofNat (s + 1 + 1) + -1 = Int32.ofNat (s + 1) := by
      rw [← n_suc (s + 1), Int32.add_assoc]
      exact Int32.add_zero _
    rw [em]
    refine t_103_31 hS hp hb hw hst hm hGs hlen hg32 hN hex h s nx fr c' (iFN_sw hf) (by omega) (iSt_of (by omega) (by omega) e3 hI) ?_ e1
    rw [show N - (s + 1) = N - (s + 1 + 1) + 1 by omega]
    refine rp_iff (fun K w => ?_) e2
    show _ ↔ ∃ g, _
    rw [show N - (N - (s + 1 + 1) + 1) = s + 1 by omega]
theorem t_103_5 {fr nx : Nat} {Q : zQB} {c0 : zI} {F : Nat → Nat → Prop} {s p : Nat} (hf : iFN fr nx) (hp : p < 6) (hW : W < 32) (hF : ∀ K w, F K w → K < 2 ^ sTri p) (h12 : ∀ c, iSt Gs p c0 c → c 1 2 = Int32.ofNat W)
    (h : ∀ c, iSt Gs p c0 c → rp c fr (fun K w => F K w ∧ w = W) → rp c nx (fun _ _ => False) → Wb (d + 3) 103 31 [.ref 17, .ref 1, .int (Int32.ofNat st), .retAddr 0, .int (Int32.ofNat s), .retAddr 0, .retAddr 0, .retAddr 0] [] (zCS ++ X) (zCR fr nx P) c lc Q) :
    ∀ (j C : Nat) (c : zI), C + j = 2 ^ sTri p → iSt Gs p c0 c → rp c fr (fun K w => F K w ∧ (K < C → w = W)) → rp c nx (fun _ _ => False) →
      Wb (d + 3) 103 5 [.ref 17, .ref 1, .int (Int32.ofNat st), .int (Int32.ofNat s), .int (Int32.ofNat C), .retAddr 0, .retAddr 0, .retAddr 0] [] (zCS ++ X) (zCR fr nx P) c lc Q
  | 0, C, c, e, hI, r1, r2 => by
    obtain ⟨t1, t2⟩ := tri_1024 hp
    refine B_103_5 1 _ _ _ (.inl rfl) hf ⟨fun _ => h c hI (rp_iff (fun K w => ⟨fun z => ⟨z.1, z.2 (by have := hF _ _ z.1; omega)⟩, fun z => ⟨z.1, fun _ => z.2⟩⟩) r1) r2, fun q => ?_⟩
    rw [hI.2.1] at q
    exact absurd ((n_le (by omega) (by omega)).mpr (by omega)) q
  | j + 1, C, c, e, hI, r1, r2 => by
    obtain ⟨t1, t2⟩ := tri_1024 hp
    have hC : C < 1024 := by omega
    have hz := n_zin (k := C) (n := 1024) hC (by decide)
    refine B_103_5 1 _ _ _ (.inl rfl) hf ⟨fun q => ?_, fun _ => ⟨fun q => absurd ((n_le (a := 1024) (by decide) (by omega)).mp q) (by omega), fun _ => ⟨hz, hz, ?_⟩⟩⟩
    · rw [hI.2.1] at q
      exact absurd ((n_le (by omega) (by omega)).mp q) (by omega)
    · rw [n_suc, n_cl (show C < 2147483648 by omega), h12 c hI]
      refine t_103_5 hf hp hW hF h12 h j (C + 1) _ (by omega) (iSt_of (a := fr) (b := fr) (by omega) (by omega) (fun y K h1 _ => zu_nc h1) hI) (fun K hK w hw => ?_) (fun K hK w hw => by rw [zu_nc (by omega)]; exact r2 K hK w hw)
      by_cases eK : K = C
      · subst eK
        rw [zu_eq, tB_and, r1 K hK w hw, tB_pow W hW w hw]
        exact ⟨fun z => ⟨z.1.1, fun _ => z.2⟩, fun z => ⟨⟨z.1, fun y => absurd y (Nat.lt_irrefl _)⟩, z.2 (by omega)⟩⟩
      · rw [zu_nk eK, r1 K hK w hw]
        exact ⟨fun z => ⟨z.1, fun y => z.2 (by omega)⟩, fun z => ⟨z.1, fun y => z.2 (by omega)⟩⟩
end FIRST
