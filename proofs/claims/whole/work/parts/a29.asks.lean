/-! Calls that only look, class and reference side by side. -/
/-- what a call may make -/
def zGr (X X' : zS) : Prop := X'.length ≤ X.length + 3 ∧ (X'.map (·.2)).sum ≤ (X.map (·.2)).sum + 12
theorem zGr_rfl (X : zS) : zGr X X := ⟨by omega, by omega⟩
def TG (d j : Nat) (args : List Value) (X : zS) (fr nx : Nat) (P : zR0) (c : zI) (lc : zJ) (K : Int32 → zS → Nat → Nat → zR0 → zI → zJ → Prop) : Prop :=
  Tz d j args (zCS ++ X) (zCR fr nx P) c lc (fun r S1 R1 c1 l1 => ∃ v X' fr' nx' P', r = some (.int v) ∧ S1 = zCS ++ X' ∧ zGr X X' ∧ R1 = zCR fr' nx' P' ∧ K v X' fr' nx' P' c1 l1)
/-- a call of both: they answer alike, and stand to each other as before -/
def sI (jc jm : Nat) (a : List Value) : Prop := ∀ (X : zS) (fr nx : Nat) (P : zR0) (c : zI) (lc : zJ) (m : zI) (lm : zJ), Rl X fr nx P c lc m lm →
  TG 40 jc (.ref 0 :: a) X fr nx P c lc (fun v X' fr' nx' P' c' lc' => TI 40 jm (.ref 0 :: a) zMS zMR m lm (fun w m' lm' => v = w ∧ Rl X' fr' nx' P' c' lc' m' lm'))
def sL (jc jm : Nat) (a : List Value) : Prop := ∀ (X : zS) (fr nx : Nat) (P : zR0) (c : zI) (lc : zJ) (m : zI) (lm : zJ), Rl X fr nx P c lc m lm →
  TL 40 jc (.ref 0 :: a) (zCS ++ X) (zCR fr nx P) c lc (fun v c' lc' => TL 40 jm (.ref 0 :: a) zMS zMR m lm (fun w m' lm' => v = w ∧ Rl X fr nx P c' lc' m' lm'))
section TGS
variable {d j : Nat} {args : List Value} {X : zS} {fr nx : Nat} {P : zR0} {c : zI} {lc : zJ} {K : Int32 → zS → Nat → Nat → zR0 → zI → zJ → Prop}
theorem TG_I (h : TI d j args (zCS ++ X) (zCR fr nx P) c lc (fun v c' lc' => K v X fr nx P c' lc')) : TG d j args X fr nx P c lc K :=
  Tz.mono h (fun r S1 R1 c1 l1 ⟨v, e1, e2, e3, k⟩ => ⟨v, X, fr, nx, P, e1, e2, zGr_rfl X, e3, k⟩)
theorem TG_B (h : Tb d j args (zCS ++ X) (zCR fr nx P) c lc (fun r R1 c1 l1 => ∃ v fr' nx' P', r = some (.int v) ∧ R1 = zCR fr' nx' P' ∧ K v X fr' nx' P' c1 l1)) : TG d j args X fr nx P c lc K :=
  Wz.mono h (fun r S1 R1 c1 l1 ⟨e, v, fr', nx', P', a, b, k⟩ => ⟨v, X, fr', nx', P', a, e, zGr_rfl X, b, k⟩)
end TGS
theorem rl_cls {X : zS} {fr nx : Nat} {P : zR0} {c m : zI} {lc lm : zJ} (h : Rl X fr nx P c lc m lm) : cPls X fr nx P c m := by
  obtain ⟨_, _, _, _, _, N, T, _, _, i, _⟩ := h
  exact rl_pls i
theorem n_inj32 {a : Int32} {g g' : Nat} (e : a = Int32.ofNat g) (e' : a = Int32.ofNat g') (h : g < 32) (h' : g' < 32) : g = g' := (n_eq (by omega) (by omega)).mp (e.symm.trans e')
section ASKS
variable {a b e f : Int32}
theorem s_by : sI 62 208 [.int a, .int b] := by
  intro X fr nx P c lc m lm h
  obtain ⟨cs, hA, hR, hF, hN, hm, hf⟩ := rl_now h
  exact TG_I (t_62 (d := 23) hA (by decide) hR hF.1 hm (rl_cls h) (fun c' lc' u v => t_208 (d := 32) (n := 9999) (by decide) hA (fun m' t => ⟨rfl, rl_q h hf u (fC_M v) t (fun _ => rfl)⟩)))
theorem s_run : sI 91 218 [.int a, .int b, .int e] := by
  intro X fr nx P c lc m lm h
  obtain ⟨cs, hA, hR, hF, hN, hm, hf⟩ := rl_now h
  exact TG_I (t_91 (d := 21) hA (by decide) hR hF.1 hm (rl_cls h) (fun c' lc' u v => t_218 (d := 32) (n := 9999) (by decide) hA (fun m' t => ⟨rfl, rl_q h hf u (fC_R v) t (fun _ => rfl)⟩)))
theorem s_longest : sI 94 201 [] := by
  intro X fr nx P c lc m lm h
  obtain ⟨cs, hA, hR, hF, hN, hm, hf⟩ := rl_now h
  exact TG_I (t_94 (d := 25) hR hF.1 hA.2.1 hA.2.2.2.1 hA.2.2.2.2.1 hm (fun c' lc' u v => t_201 (d := 34) hA (fun m' t => ⟨rfl, rl_q h hf u (fC_M v) t (fun _ => rfl)⟩)))
theorem s_price : sI 112 206 [.int a, .int b] := by
  intro X fr nx P c lc m lm h
  obtain ⟨cs, hA, hR, hF, hN, hm, hf⟩ := rl_now h
  exact TG_I (t_112 (d := 25) hR hF.1 hA.2.1 hA.2.2.2.1 hA.2.2.2.2.1 hm (fun c' lc' u v => t_206 (d := 34) hA (fun m' t => ⟨rfl, rl_q h hf u (fC_M v) t (fun _ => rfl)⟩)))
theorem s_circle : sI 109 226 [] := by
  intro X fr nx P c lc m lm h
  obtain ⟨cs, hA, hR, hF, hN, hm, hf⟩ := rl_now h
  exact TG_I (t_109 (d := 35) hA.2.1 hR hF.1 (t_226 (d := 35) hA (fun m' t => ⟨rfl, rl_q h hf hm (fC_rfl c lc) t (fun _ => rfl)⟩)))
theorem s_strangers : sI 111 228 [] := by
  intro X fr nx P c lc m lm h
  obtain ⟨cs, hA, hR, hF, hN, hm, hf⟩ := rl_now h
  exact TG_I (t_111 (d := 35) hA.2.1 hA.2.2.2.1 hA.2.2.2.2.1 hR hF.1 (t_228 (d := 35) hA (fun m' t => ⟨rfl, rl_q h hf hm (fC_rfl c lc) t (fun _ => rfl)⟩)))
theorem iMm_0 {c c' : zI} {lc : zJ} (h1 : c' 17 1 = c 17 1) (h2 : c' 17 2 = c 17 2) (q : iMm c lc) : iMm c' lc := by
  obtain ⟨lo, hi, e1, e2, e3⟩ := q
  exact ⟨lo, hi, by rw [h1]; exact e1, by rw [h2]; exact e2, e3⟩
theorem s_home : sI 96 222 [.int a] := by
  intro X fr nx P c lc m lm h
  obtain ⟨cs, hA, hR, hF, hN, hm, hf⟩ := rl_now h
  refine TG_B (t_96 (d := 34) hf hA hR hF.1 hN.2.2.2.2.1 (fun z => ⟨_, fr, nx, P, rfl, rfl, ?_⟩) (fun z fr' nx' c' v w hf' fs hI => ⟨_, fr', nx', P, rfl, rfl, ?_⟩))
  · exact t_222 (d := 34) hA (fun _ => ⟨rfl, h⟩) (fun y => absurd y z)
  · refine t_222 (d := 34) hA (fun y => absurd z y) (fun _ m' v' w' t hI' => ⟨?_, rl_q h hf' (iMm_0 (fs _ _ (by omega) (by decide) (by decide) (by decide) (by decide) (by decide)) (fs _ _ (by omega) (by decide) (by decide) (by decide) (by decide) (by decide)) hm) (fC_S fs) t (fun _ => rfl)⟩)
    obtain ⟨q1, q2⟩ := hIs_one hI hI'
    rw [q1, q2]
theorem s_left : sI 105 225 [] := by
  intro X fr nx P c lc m lm h
  obtain ⟨cs, hA, hR, hF, hN, hm, hf⟩ := rl_now h
  refine TG_I (t_105 (d := 34) hf hA hR hF.1 (fun c' S fs hI => t_225 (d := 34) hA (fun m' S' t hI' => ⟨?_, rl_q h hf (iMm_0 (fs _ _ (by omega) (by decide) (by decide) (by decide) (by decide) (by decide)) (fs _ _ (by omega) (by decide) (by decide) (by decide) (by decide) (by decide)) hm) (fC_S fs) t (fun _ => rfl)⟩)))
  rw [lfIs_one hI hI']
theorem s_readBook : sI 122 239 [] := by
  intro X fr nx P c lc m lm h
  obtain ⟨cs, hA, hR, hF, hN, hm, hf⟩ := rl_now h
  have hB := hN.2.2.2.2.2.1
  exact TG_I (t_122 (d := 34) (n := 9999) (by decide) hA hB hR hF (fun c' v => t_239 (d := 34) (n := 9999) (by decide) hA hB (fun m' t => ⟨rfl, rl_q h hf (iMm_0 (v _ _ (by decide)) (v _ _ (by decide)) hm) (fC_R (fRun_89 v)) t (fun _ => rfl)⟩)))
theorem s_judge : sI 123 240 [.int a, .int b, .int e, .int f] := by
  intro X fr nx P c lc m lm h
  obtain ⟨cs, hA, hR, hF, hN, hm, hf⟩ := rl_now h
  have hT := h.2.2.2.2.1
  exact TG_I (t_123 (d := 21) hA (by decide) hR hF.1 hm (rl_cls h) hT.1 hT.2 (fun c' lc' u v => t_240 (d := 32) (n := 9999) (by decide) hA hT.2 (fun m' t => ⟨rfl, rl_q h hf u (fC_R v) t (fun _ => rfl)⟩)))
theorem s_likely : sL 113 229 [.int a, .int b] := by
  intro X fr nx P c lc m lm h
  obtain ⟨cs, hA, hR, hF, hN, hm, hf⟩ := rl_now h
  exact t_113 (d := 27) (n0 := 9999) (by decide) hA hR hF.1 (fun c' v => t_229 (d := 33) (n := 9999) (by decide) hA (fun m' lm' t j => ⟨rfl, rl_q h hf (iMm_0 (v _ _ (by decide)) (v _ _ (by decide)) hm) (fC_L v) t (fun k => j _ _ (by decide))⟩))
theorem s_wanted : sL 120 235 [.int a, .int b] := by
  intro X fr nx P c lc m lm h
  obtain ⟨cs, hA, hR, hF, hN, hm, hf⟩ := rl_now h
  exact t_120 (d := 27) (n0 := 9999) (by decide) hA hR hF.1 (fun c' v => t_235 (d := 33) (n := 9999) (by decide) hA (fun m' lm' t j => ⟨rfl, rl_q h hf (iMm_0 (v _ _ (by decide)) (v _ _ (by decide)) hm) (fC_L v) t (fun k => j _ _ (by decide))⟩))
theorem iG_t {m m' : zI} {tk : Nat → List Nat} (h : iG m tk 32 m') : mT m m' := h.1.t (by decide)
theorem s_groups : sI 88 197 [] := by
  intro X fr nx P c lc m lm h
  obtain ⟨cs, hA, hR, hF, hN, hm, hf⟩ := rl_now h
  refine TG_I (t_88 (d := 36) (m := mLook m (tkOf cs)) (iA_t (mLook_t m (tkOf cs)) hA) (mLook_l m (tkOf cs)) (cRu_look (tkOf cs) hR) (cSc_look (tkOf cs) hF.1) (t_197 (d := 34) hA.1 hA.2.1 hA.2.2.1 (fun m1 m2 g1 g2 => ⟨?_, rl_q h hf hm (fC_rfl c lc) ((iG_t g1).trans g2.t) (fun _ => rfl)⟩)))
  rw [mList_e (mLook_e (iG_t g1) (iL_of g1))]
theorem ru17 {c m : zI} {cs : List pCl} (hR : cRu c m cs) : 17 ≠ ruC m + 4 := by
  have := (ruC_of hR.2.1).1
  unfold iPc at this
  omega
theorem s_group : sI 85 189 [.int a, .int b] := by
  intro X fr nx P c lc m lm h
  obtain ⟨cs, hA, hR, hF, hN, hm, hf⟩ := rl_now h
  have no1 : b = 1 → 0 ≤ b ∧ b ≤ 1 := fun e => by rw [e]; decide
  refine TG_I (t_85 (d := 35) hA hR hF.1 (fun z => ?_) (fun z ng => ?_) (fun g z nb ea g32 ig => ?_) (fun g c' eb ea g32 ig v => ?_))
  · exact t_189 (d := 34) hA.1 hA.2.1 hA.2.2.1 (fun _ => ⟨rfl, h⟩) (fun y => absurd y z) (fun _ _ y => absurd y z) (fun _ _ _ y => absurd (no1 y) z)
  · exact t_189 (d := 34) hA.1 hA.2.1 hA.2.2.1 (fun y => absurd z y) (fun _ _ => ⟨rfl, h⟩) (fun _ _ _ _ _ _ ig => absurd ig ng) (fun _ _ _ _ _ _ ig => absurd ig ng)
  · refine t_189 (d := 34) hA.1 hA.2.1 hA.2.2.1 (fun y => absurd z y) (fun _ ng => absurd ig ng) (fun g' m1 _ _ ea' g32' _ g1 => ⟨?_, rl_q h hf hm (fC_rfl c lc) (iG_t g1) (fun _ => rfl)⟩) (fun _ _ _ y => absurd y nb)
    obtain rfl := n_inj32 ea ea' g32 g32'
    have := mGoes_e (mLook_e (iG_t g1) (iL_of g1)) g32
    simp only [this]
  · exact t_189 (d := 34) hA.1 hA.2.1 hA.2.2.1 (fun y => absurd (no1 eb) y) (fun _ ng => absurd ig ng) (fun _ _ _ nb => absurd eb nb) (fun g' m1 m2 _ _ _ _ g1 g2 => ⟨rfl, rl_q h hf (iMm_0 (v _ _ (ru17 hR)) (v _ _ (ru17 hR)) hm) (fC_R (fRun_val (ruC_of hR.2.1).1 v)) ((iG_t g1).trans (mAs.t g2 (by decide))) (fun _ => rfl)⟩)
end ASKS
