/-! The class: home. -/
section SEEK
variable {d : Nat} {X : zS} {P : zR0} {lc : zJ} {G : Nat → Prop} {Gs : List Nat} {m : zI} {cs : List pCl} {st W : Nat}
theorem iSt_9 {p : Nat} {c0 c : zI} {v : Int32} (q : iSt Gs p c0 c) : iSt Gs p (zu c 17 9 v) (zu c 17 9 v) := by
  obtain ⟨⟨q1, q2⟩, q3, q4, q9⟩ := q
  exact ⟨⟨by rw [zu_nk (by decide)]; exact q1, fun i hi => by rw [zu_nc (by decide)]; exact q2 i hi⟩, by rw [zu_nk (by decide)]; exact q3, fSr_rfl _, rfl⟩
theorem fSr_put {c0 c : zI} {k : Nat} {v : Int32} (hk : k = 9 ∨ k = 10) (q : fSr c0 c) : fSr c0 (zu c 17 k v) := fun x y z1 z2 z3 z4 z5 z6 => by
  rw [zu_ne (by omega)]; exact q x y z1 z2 z3 z4 z5 z6
theorem t_97_36 {Q : zQB} {c0 : zI} (hS : cSc 1 c0 m) (hp : iP m) (hb : iB m) (hw : iW m) (hst : st < 2 ^ sTri (mPe m)) (hm : ∀ g, g ∈ Gs ↔ G g) (hGs : Gs.Pairwise (· < ·)) (hlen : Gs.length < 32) (hg32 : ∀ g, G g → 1 ≤ g ∧ g < 2 ^ mPe m) (hW : W < 32) (h02 : m 0 2 = Int32.ofNat W)
    (h : ∀ fr nx c n f, iFN fr nx → fSr c0 c → c 17 9 = n → c 17 10 = f → cHm G st (mW m) (mBo m) W n f → Q none (zCR fr nx P) c lc) :
    ∀ (j i fr nx : Nat) (c : zI), i + j = 30 → iFN fr nx → iSt Gs (mPe m) c0 c → rp c fr (cL G st (mW m) (mBo m) i) → rp c nx (fun _ _ => False) → (∀ a, a < 2 → rp c (21 + a) (cSeen G st (mW m) (mBo m) i a)) → (∀ n K, n ≤ i → ¬ cD G st (mW m) (mBo m) n K W) →
      Wb (d + 4) 97 36 [.ref 17, .ref 1, .retAddr 0, .retAddr 0, .int (Int32.ofNat st), .int ((1 : Int32) <<< (Int32.ofNat W &&& 31)), .int (Int32.ofNat (i + 1)), .retAddr 0] [] (zCS ++ X) (zCR fr nx P) c lc Q
  | 0, i, fr, nx, c, e, hf, hI, r1, r2, r3, hno => by
    obtain rfl : i = 30 := by omega
    refine B_97_36 1 27 _ _ _ (.inl rfl) (.inl rfl) hf ⟨fun _ => ?_, fun q => absurd (show (30 : Int32) < Int32.ofNat (30 + 1) by decide) q⟩
    exact h fr nx _ (-5) (-5) hf (fSr_put (.inr rfl) (fSr_put (.inl rfl) hI.2.2.1)) (by rw [zu_nk (by decide), zu_eq]) (by rw [zu_eq]) (.inl ⟨rfl, rfl, fun N K hN => hno N K hN⟩)
  | j + 1, i, fr, nx, c, e, hf, hI, r1, r2, r3, hno => by
    obtain ⟨q1, q2⟩ := iP_of hp
    obtain ⟨b1, b2⟩ := mBo_of hb
    obtain ⟨t1, t2⟩ := tri_1024 q2
    have g32 : ∀ g, G g → g < 32 := fun g hg => by
      have := (hg32 g hg).2
      have l32 : 2 ^ mPe m ≤ 2 ^ 5 := Nat.pow_le_pow_right (by decide) (by omega)
      omega
    have hKb : ∀ n K w, cD G st (mW m) (mBo m) n K w → K < 2 ^ sTri (mPe m) := fun n K w ⟨f, q⟩ => (cQ_ok q2 (fun g hg => (hg32 g hg).2) hst hw.2 n f K w q).1
    have ha : (mBo m + i) % 2 < 2 := Nat.mod_lt _ (by decide)
    refine B_97_36 1 27 _ _ _ (.inl rfl) (.inl rfl) hf ⟨fun q => absurd ((n_lt (a := 30) (by decide) (by omega)).mp q) (by omega), fun _ => t_99 (d := d + 2) (iSt_sc hS hI) hb (by omega) ?_⟩
    refine wb_call (v := 99) (j1 := 100) (n := 2) (args := [.ref 17, .int (Int32.ofNat ((mBo m + i) % 2))]) (rest := []) (I := .invokevirtual 99) rfl rfl rfl rfl rfl rfl (Nat.le_refl 2) rfl rfl rfl (by decide) (show 2 ≤ 7 by decide) ?_
    have e22 : 22 - (mBo m + i) % 2 = 21 + (mBo m + (i + 1)) % 2 := by omega
    refine t_100 (d := d + 1) (G := G) (F := cL G st (mW m) (mBo m) i) (S0 := cSeen G st (mW m) (mBo m) i ((mBo m + (i + 1)) % 2)) hf ha t1 hI.2.1 hI.1 hlen hm g32 (fun K w q => hKb i K w q.1) r1 r2 (by rw [e22]; exact r3 _ (Nat.mod_lt _ (by decide))) (fun y c' s1 s2 s3 s4 s5 => ?_)
    rw [e22] at s3 s5
    -- what is new
    have hnew : ∀ K w, (cS G (cL G st (mW m) (mBo m) i) ((mBo m + i) % 2) K w ∧ ¬ cSeen G st (mW m) (mBo m) i ((mBo m + (i + 1)) % 2) K w) ↔ cL G st (mW m) (mBo m) (i + 1) K w := fun K w => cL_suc.symm
    have hS' : fSr c0 c' := fun x k z1 z2 z3 z4 z5 z6 => by
      rw [s5 x k (by omega) (by omega) (by omega)]
      exact hI.2.2.1 x k z1 z2 z3 z4 z5 z6
    have hI' : iSt Gs (mPe m) c0 c' := ⟨⟨by rw [s5 17 4 (by omega) (by omega) (by omega)]; exact hI.1.1, fun k hk => by rw [s5 19 k (by omega) (by omega) (by omega)]; exact hI.1.2 k hk⟩, by rw [s5 17 5 (by omega) (by omega) (by omega)]; exact hI.2.1, hS', by rw [s5 17 9 (by omega) (by omega) (by omega)]; exact hI.2.2.2⟩
    have n2 : rp c' nx (cL G st (mW m) (mBo m) (i + 1)) := rp_iff hnew s2
    have hy : tB y W ↔ ∃ K, cD G st (mW m) (mBo m) (i + 1) K W := by
      rw [s4 W hW]
      constructor
      · rintro ⟨K, k1, k2⟩
        exact ⟨K, ((hnew K W).mp k2).1⟩
      · rintro ⟨K, k1⟩
        have := hKb _ _ _ k1
        exact ⟨K, by omega, (hnew K W).mpr ⟨k1, fun ⟨j, j1, j2, j3⟩ => hno j K (by omega) j3⟩⟩
    refine B_97_44 1 27 _ _ _ y (.inl rfl) (.inl rfl) (iFN_sw hf) ⟨fun u => ?_, fun u => ?_⟩
    · have hnoW : ∀ n K, n ≤ i + 1 → ¬ cD G st (mW m) (mBo m) n K W := fun n K hn q => by
        by_cases en : n = i + 1
        · subst en; exact (tB_at hW).mp u (hy.mpr ⟨K, q⟩)
        · exact hno n K (by omega) q
      refine ⟨fun v => ?_, fun v => ?_⟩
      · rw [n_suc]
        refine t_97_36 hS hp hb hw hst hm hGs hlen hg32 hW h02 h j (i + 1) nx fr c' (by omega) (iFN_sw hf) hI' n2 s1 (fun a ha2 => ?_) hnoW
        by_cases ea : a = (mBo m + (i + 1)) % 2
        · subst ea
          refine rp_iff (fun K w => ?_) s3
          rw [cSeen_suc]
          exact ⟨fun q => q.elim .inl (fun z => .inr ⟨rfl, z⟩), fun q => q.elim .inl (fun z => .inr z.2)⟩
        · refine rp_iff (fun K w => ?_) (rp_eq (fun K => s5 (21 + a) K (by omega) (by omega) (by omega)) (r3 a ha2))
          rw [cSeen_suc]
          exact ⟨.inl, fun q => q.elim id (fun z => absurd z.1 ea)⟩
      · have y0 : y = 0 := Decidable.not_not.mp v
        have hemp : ∀ K w, ¬ cL G st (mW m) (mBo m) (i + 1) K w := fun K w q => by
          obtain ⟨f, qq⟩ := q.1
          obtain ⟨k1, k2⟩ := cQ_ok q2 (fun g hg => (hg32 g hg).2) hst hw.2 _ f K w qq
          have pw := pow_tri _ hp
          have := (s4 w (by omega)).mpr ⟨K, by omega, (hnew K w).mpr q⟩
          rw [y0] at this
          exact tB_0 w this
        refine h nx fr _ (-5) (-5) (iFN_sw hf) (fSr_put (.inr rfl) (fSr_put (.inl rfl) hS')) (by rw [zu_nk (by decide), zu_eq]) (by rw [zu_eq]) (.inl ⟨rfl, rfl, fun N K _ q => ?_⟩)
        obtain ⟨j, j1, -, j3⟩ := cSeen_all hemp N K W q
        exact hno j K j1 j3
    · have hyW : tB y W := Classical.byContradiction fun z => u ((tB_at hW).mpr z)
      obtain ⟨K1, f1, hq1⟩ := hy.mp hyW
      refine wb_call (v := 100) (j1 := 103) (n := 4) (args := [.ref 17, .ref 1, .int (Int32.ofNat st), .int (Int32.ofNat (i + 1))]) (rest := [.ref 17]) (I := .invokevirtual 100) rfl rfl rfl rfl rfl rfl (show 4 ≤ 5 by decide) rfl rfl rfl (by decide) (show 4 ≤ 8 by decide) ?_
      have hI9 := iSt_9 (v := Int32.ofNat (i + 1)) hI'
      have hS9 : cSc 1 (zu c' 17 9 (Int32.ofNat (i + 1))) m := cSc_eq (fun k _ => zu_nc (by decide)) (fun k _ => zu_nc (by decide)) (iSt_sc hS hI')
      refine B_103 1 _ _ (.inl rfl) (iFN_sw hf) (t_103_5 (d := d) (c0 := zu c' 17 9 (Int32.ofNat (i + 1))) (F := cL G st (mW m) (mBo m) (i + 1)) (s := i + 1) (iFN_sw hf) q2 hW (fun K w q => hKb _ K w q.1) (fun c2 hI2 => by rw [(iSt_sc hS9 hI2).2.2.1]; exact h02) (fun c2 hI2 r5 r6 => ?_) (2 ^ sTri (mPe m)) 0 _ (by omega) hI9 (fun K hK w hw' => by rw [zu_nc (by omega)]; exact (n2 K hK w hw').trans ⟨fun z => ⟨z, fun y => absurd y (Nat.not_lt_zero _)⟩, fun z => z.1⟩) (fun K hK w hw' => by rw [zu_nc (by omega)]; exact s1 K hK w hw'))
      refine t_103_31 (d := d) (N := i + 1) (W := W) hS9 hp hb hw hst hm hGs hlen hg32 (by omega) ⟨f1, K1, hq1⟩ (fun fr2 nx2 c3 g hf2 hI3 hex hmin => ?_) i nx fr c2 (iFN_sw hf) (Nat.le_refl _) hI2 ?_ r6
      · refine B_97_58 1 27 _ _ _ _ _ (.inl rfl) (.inl rfl) hf2 ?_
        refine h fr2 nx2 _ (Int32.ofNat (i + 1)) (Int32.ofNat g) hf2 (fSr_put (.inr rfl) (fSr_tr (fSr_put (.inl rfl) hS') hI3.2.2.1)) (by rw [zu_nk (by decide), hI3.2.2.2, zu_eq]) (by rw [zu_eq]) (.inr ⟨i + 1, g, by omega, rfl, rfl, hex, fun N' F' K q => ⟨?_, fun z => ?_⟩⟩)
        · exact Nat.lt_of_not_le (fun z => hno N' K z ⟨F', q⟩)
        · subst z; exact hmin F' K q
      · rw [Nat.sub_self]
        refine rp_iff (fun K w => ?_) r5
        constructor
        · rintro ⟨z1, z2⟩; exact ⟨z1.1, z2⟩
        · rintro ⟨z1, z2⟩
          subst z2
          exact ⟨⟨z1, fun ⟨j, j1, j2, j3⟩ => hno j K (by omega) j3⟩, rfl⟩
theorem cL_0 {w0 a0 K w : Nat} : cL G st w0 a0 0 K w ↔ K = st ∧ w = w0 :=
  ⟨fun ⟨⟨f, q⟩, _⟩ => q.2, fun q => ⟨⟨0, rfl, q⟩, fun ⟨j, hj, _⟩ => absurd hj (Nat.not_lt_zero _)⟩⟩
theorem cSeen_0 {w0 a0 a K w : Nat} (ha : a0 < 2) : cSeen G st w0 a0 0 a K w ↔ a = a0 ∧ K = st ∧ w = w0 := by
  constructor
  · rintro ⟨j, j1, j2, f, q⟩
    obtain rfl : j = 0 := by omega
    exact ⟨by omega, q.2⟩
  · rintro ⟨e, q⟩
    exact ⟨0, Nat.le_refl _, by omega, 0, rfl, q⟩
/-- seekHome -/
theorem t_97 {fr nx : Nat} {Q : zQB} {c : zI} {cl r : Nat} (hf : iFN fr nx) (hr : iPc r) (hS : cSc 1 c m) (hp : iP m) (hb : iB m) (hw : iW m) (hP : cPa r c cs) (hc : iCs cs) (hcl : cl < 1024) (hW : W < 32) (h02 : m 0 2 = Int32.ofNat W)
    (h : ∀ fr nx c' n f, iFN fr nx → fSr c c' → c' 17 9 = n → c' 17 10 = f → cHm (cG (mPe m) cs) (cl &&& (2 ^ sTri (mPe m) - 1)) (mW m) (mBo m) W n f → Q none (zCR fr nx P) c' lc) :
    Tb (d + 5) 97 [.ref 17, .ref 1, .int (Int32.ofNat cl), .ref r] (zCS ++ X) (zCR fr nx P) c lc Q := by
  obtain ⟨q1, q2⟩ := iP_of hp
  obtain ⟨b1, b2⟩ := mBo_of hb
  obtain ⟨t1, t2⟩ := tri_1024 q2
  have pw := pow_tri _ hp
  have w32 : mW m < 32 := by have := hw.2; omega
  have u : ∀ x k, ¬ (x = 17 ∧ (k = 9 ∨ k = 10)) → zu (zu c 17 9 0) 17 10 0 x k = c x k := fun x k z => by rw [zu_ne (by omega), zu_ne (by omega)]
  have hS1 : cSc 1 (zu (zu c 17 9 0) 17 10 0) m := cSc_eq (fun k _ => u _ _ (by omega)) (fun k _ => u _ _ (by omega)) hS
  have hP1 : cPa r (zu (zu c 17 9 0) 17 10 0) cs := cPa_eq (fun k => u _ _ (by omega)) (fun k => u _ _ (by omega)) (fun k => u _ _ (by omega)) (fun k => u _ _ (by omega)) hP
  have hfs : fSr c (zu (zu c 17 9 0) 17 10 0) := fSr_put (.inr rfl) (fSr_put (.inl rfl) (fSr_rfl c))
  have hmod : cl &&& (2 ^ sTri (mPe m) - 1) < 2 ^ sTri (mPe m) := by
    rw [Nat.and_two_pow_sub_one_eq_mod]; exact Nat.mod_lt _ t2
  refine B_97 1 _ r (.inl rfl) hr hf ⟨fun x => ?_, fun x => ?_⟩
  · refine t_98 (d := d) (m := m) hr hf hS1 hp hb hw hP1 hc hcl (fun c1 hB hf1 h17 => ⟨n_zin (by omega) (by decide), ?_⟩)
    obtain ⟨g1, g2, g3, g4, g5, g6⟩ := hB
    have hS2 : cSc 1 c1 m := cSc_eq (fun k _ => hf1 1 k (by omega) (by decide) (by decide) (by decide) (by decide) (by decide)) (fun k _ => hf1 2 k (by omega) (by decide) (by decide) (by decide) (by decide) (by decide)) hS1
    rw [hS2.2.1, hS2.2.2.1, hw.1, h02, n_cl (show cl &&& (2 ^ sTri (mPe m) - 1) < 2147483648 by omega)]
    have hnW : mW m ≠ W := fun z => x (by rw [hS1.2.1, hS1.2.2.1, hw.1, h02, z])
    have r23 : rp c1 fr (fun _ _ => False) ∧ rp c1 nx (fun _ _ => False) := by
      rcases hf with ⟨rfl, rfl⟩ | ⟨rfl, rfl⟩
      · exact ⟨g5, g6⟩
      · exact ⟨g6, g5⟩
    have hm : ∀ g, g ∈ gl (cG (mPe m) cs) 32 ↔ cG (mPe m) cs g := fun g => by
      rw [gl_mem]
      exact ⟨fun z => z.2.2, fun z => ⟨by have := z.2.1; omega, z.1, z⟩⟩
    have hlen : (gl (cG (mPe m) cs) 32).length < 32 := Nat.lt_of_le_of_lt (gl_len (cG (mPe m) cs) 31) (by decide)
    refine t_97_36 (d := d + 1) (c0 := zu (zu c 17 9 0) 17 10 0) (Gs := gl (cG (mPe m) cs) 32) hS1 hp hb hw hmod hm (gl_srt 32) hlen (fun g hg => ⟨hg.1, hg.2.1⟩) hW h02 (fun fr nx c' n f a1 a2 a3 a4 a5 => h fr nx c' n f a1 (fSr_tr hfs a2) a3 a4 a5) 30 0 fr nx _ rfl hf ?_ (fun K hK w hw' => ?_) (fun K hK w hw' => ?_) (fun a ha2 K hK w hw' => ?_) (fun n K hn => ?_)
    · exact ⟨⟨by rw [zu_nc (by omega)]; exact g1.1, fun i hi => by rw [zu_nc (by omega)]; exact g1.2 i hi⟩, by rw [zu_nc (by omega)]; exact g2, fun x k z1 z2 z3 z4 z5 z6 => by rw [zu_nc (by omega), hf1 x k z1 z2 z3 z4 z5 z6], by rw [zu_nc (by omega), h17 9 (by decide) (by decide)]⟩
    · rw [cL_0]
      by_cases eK : K = cl &&& (2 ^ sTri (mPe m) - 1)
      · rw [eK, zu_eq, tB_pow _ w32 w hw']
        exact ⟨fun z => ⟨rfl, z⟩, fun z => z.2⟩
      · rw [zu_nk eK]
        exact (r23.1 K hK w hw').trans ⟨fun z => z.elim, fun z => absurd z.1 eK⟩
    · rw [zu_nc (by omega)]; exact r23.2 K hK w hw'
    · rw [zu_nc (by omega), cSeen_0 b2]
      by_cases ea : a = mBo m
      · subst ea
        exact (g3 K hK w hw').trans ⟨fun z => ⟨rfl, z⟩, fun z => z.2⟩
      · have : 21 + a = 22 - mBo m := by omega
        rw [this]
        exact (g4 K hK w hw').trans ⟨fun z => z.elim, fun z => absurd z.1 ea⟩
    · obtain rfl : n = 0 := by omega
      rintro ⟨f, q⟩
      exact hnW q.2.2.symm
  · have x := Decidable.not_not.mp x
    rw [hS1.2.1, hS1.2.2.1, hw.1, h02] at x
    have eW : mW m = W := (n_eq (by omega) (by omega)).mp x
    refine h fr nx _ 0 0 hf hfs (by rw [zu_nk (by decide), zu_eq]) (by rw [zu_eq]) (.inr ⟨0, 0, by decide, rfl, rfl, ⟨_, rfl, rfl, eW.symm⟩, fun N' F' K q => ⟨Nat.zero_le _, fun z => ?_⟩⟩)
    exact Nat.zero_le _
end SEEK
