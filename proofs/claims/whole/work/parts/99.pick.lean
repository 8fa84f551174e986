/-! pick, by the plan. -/
section PICK
variable {d : Nat} {X : zS} {fr nx : Nat} {P : zR0} {c m : zI} {lc : zJ} {cs : List pCl}
theorem kd_val {n : Nat} {tk : Nat → List Nat} {p : Nat} (hA : iA n m tk) (hp : p < 10) : (m 2 p = Int32.ofNat (mKd m p) ∧ mKd m p < 7) ∧ (m 3 p = Int32.ofNat (mV m p) ∧ mV m p < 10) := hA.2.2.2.2.2.1.2.1 p hp
/-- what a plan of scores takes -/
theorem t_73s {K : Int32 → zI → zJ → Prop} {t b e kd : Nat} {n : Nat} (hA : iA n m (tkOf cs)) (hL : iL m (tkOf cs)) (hH : iHold m cs) (hc : iCs cs) (hb : iSc b) (he : iPc e) (hS : cSc b c m) (hPa : cPa e c cs) (hm : iMm c lc)
    (hz : zk (zCS ++ X) t = zKd kd ∨ kd = 2 ∧ zk (zCS ++ X) t = 10) (hk : kd = 0 ∨ kd = 1 ∨ kd = 2 ∨ kd = 4)
    (h : ∀ c' lc', iMm c' lc' → mM c lc c' lc' → K (aNone (if kd = 0 then (gl (mGoes m) 32).getD 0 0 else pk (mRank m kd) (gl (mGoes m) 32))) c' lc') : TI (d + 15) 73 [.ref t, .int (Int32.ofNat (bN (opP m cs) 32)), .ref b, .ref e, .ref 17] (zCS ++ X) (zCR fr nx P) c lc K := by
  have hA' := hA
  obtain ⟨a1, a2, a3, a4, a5, a6, a7⟩ := hA'
  have hop := fun (g : Nat) (hg : g < 32) => op_iff hA hL hH hc hg
  have egl : gl (opP m cs) 32 = gl (mGoes m) 32 := gl_congr1 32 (fun g hg h1 => (hop g hg).trans ⟨fun q => q.2, fun q => ⟨h1, q⟩⟩)
  have h1 : ∀ g, opP m cs g → 1 ≤ g := fun g q => q.1
  have sub : ∀ g, g < 32 → opP m cs g → g < 2 ^ mPe m := fun g hg q => ((hN_sub a2 a4 a5 hg).mp q.2.1).1
  have keepS : ∀ c' lc', mM c lc c' lc' → cSc b c' m := fun c' lc' q => cSc_M hb q hS
  have keepP : ∀ c' lc', mM c lc c' lc' → cPa e c' cs := fun c' lc' q => cPa_eq (fun k => q.1 _ _ (fun z => by omega)) (fun k => q.1 _ _ (fun z => by omega)) (fun k => q.1 _ _ (fun z => by omega)) (fun k => q.1 _ _ (fun z => by omega)) hPa
  rw [← egl] at h
  rcases hk with rfl | rfl | rfl | rfl
  · have hz : zk (zCS ++ X) t = 5 := hz.elim id (fun z => absurd z.1 (by decide))
    refine t_73 (d := d + 14) (j := 81) (r := fun _ => 0) (I := fun c' lc' => iMm c' lc' ∧ mM c lc c' lc') hb he h1 (fun g => ⟨tg_vi hz (by decide) rfl rfl, show 5 ≤ _ by decide⟩) (fun g c1 l1 K' _ _ hI q => t_81 hb he (q c1 l1 hI)) ⟨hm, mM_rfl c lc⟩ (fun c' lc' q => ?_)
    have := h c' lc' q.1 q.2
    rw [if_pos rfl] at this
    rw [pk_zero _ (fun x hx => ((gl_mem _ _ _).mp hx).2.1)]
    exact this
  · have hz : zk (zCS ++ X) t = 1 := hz.elim id (fun z => absurd z.1 (by decide))
    refine t_73 (d := d + 14) (j := 78) (r := mRank m 1) (I := fun c' lc' => iMm c' lc' ∧ mM c lc c' lc') hb he h1 (fun g => ⟨tg_vi hz (by decide) rfl rfl, show 5 ≤ _ by decide⟩) (fun g c1 l1 K' hg _ hI q => t_78 (d := d + 12) hb he hg (q c1 l1 hI)) ⟨hm, mM_rfl c lc⟩ (fun c' lc' q => ?_)
    have := h c' lc' q.1 q.2
    rw [if_neg (by decide)] at this
    exact this
  · have tg : ∀ args, ztg (zCS ++ X) 71 (.ref t :: args) = some 79 := fun args => by
      rcases hz with hz | hz
      · exact tg_vi (k := 3) hz (by decide) rfl rfl
      · exact tg_vi (k := 10) hz.2 (by decide) rfl rfl
    refine t_73 (d := d + 14) (j := 79) (r := mRank m 2) (I := fun c' lc' => iMm c' lc' ∧ mM c lc c' lc') hb he h1 (fun g => ⟨tg _, show 5 ≤ _ by decide⟩) (fun g c1 l1 K' hg ho hI q => t_79 (d := d + 11) hb he (keepS _ _ hI.2) a2 hg (sub g hg ho) (q c1 l1 hI)) ⟨hm, mM_rfl c lc⟩ (fun c' lc' q => ?_)
    have := h c' lc' q.1 q.2
    rw [if_neg (by decide)] at this
    exact this
  · have hz : zk (zCS ++ X) t = 0 := hz.elim id (fun z => absurd z.1 (by decide))
    refine t_73 (d := d + 14) (j := 74) (r := cRank4 m (tkOf cs)) (I := fun c' lc' => iMm c' lc' ∧ mM c lc c' lc') hb he h1 (fun g => ⟨tg_vi hz (by decide) rfl rfl, show 5 ≤ _ by decide⟩) (fun g c1 l1 K' hg ho hI q => t_74 (d := d) hb he (keepS _ _ hI.2) a2 a4 a5 hH hc (keepP _ _ hI.2) hI.1 hg ho.2.1 (sub g hg ho) (by rw [hz]; decide) (fun c' lc' u v => q c' lc' ⟨u, mM_tr hI.2 v⟩)) ⟨hm, mM_rfl c lc⟩ (fun c' lc' q => ?_)
    have := h c' lc' q.1 q.2
    rw [if_neg (by decide)] at this
    rw [pk_congr (r := cRank4 m (tkOf cs)) (r' := mRank m 4) (fun x y hx hy => ?_)]
    · exact this
    · obtain ⟨u1, -, u3⟩ := (gl_mem _ _ _).mp hx
      obtain ⟨v1, -, v3⟩ := (gl_mem _ _ _).mp hy
      exact rank4 a2 hL a5 a4 hH hc (sub x u1 u3) (sub y v1 v3)
/-- what a plan of lots takes -/
theorem t_69s {K : Int32 → zI → zJ → Prop} {t b e p : Nat} {n : Nat} (hA : iA n m (tkOf cs)) (hn : n ≤ 100000) (hL : iL m (tkOf cs)) (hH : iHold m cs) (hc : iCs cs) (hb : iSc b) (he : iPc e) (hS : cSc b c m) (hp : p < 10)
    (hpl : cPlan X fr nx P t p c m) (hk : mKd m p = 3 ∨ mKd m p = 6) (h : K (aNone (mTk m p)) c lc) : TI (d + 4) 69 [.ref t, .int (Int32.ofNat (bN (opP m cs) 32)), .ref b, .ref e, .ref 17] (zCS ++ X) (zCR fr nx P) c lc K := by
  have hA' := hA
  obtain ⟨a1, a2, a3, a4, a5, a6, a7⟩ := hA'
  obtain ⟨p1, p2, p3, p4, p5, p6, -⟩ := hpl
  obtain ⟨⟨k1, k2⟩, k3, k4⟩ := kd_val hA hp
  have egl : gl (opP m cs) 32 = gl (mGoes m) 32 := gl_congr1 32 (fun g hg h1 => (op_iff hA hL hH hc hg).trans ⟨fun q => q.2, fun q => ⟨h1, q⟩⟩)
  have h1 : ∀ g, opP m cs g → 1 ≤ g := fun g q => q.1
  have hcr : c b 4 = Int32.ofNat (mCr m) := by rw [hS.2.2.2.2.1, a7.1]
  have hcr9 : mCr m ≤ 100000 := Nat.le_trans a7.2 hn
  have hv : c t 1 = Int32.ofNat (mV m p) := by rw [p5, k3]
  unfold mTk at h
  rcases hk with hk | hk
  · have hz : zk (zCS ++ X) t = 2 := by rw [p2, hk]; rfl
    have hzn : zand (zhas [2, 9] (zk (zCS ++ X) t)) (Nat.blt 1 (zn (zCS ++ X) t)) = true := by rw [hz, p3, if_neg (by omega)]; rfl
    refine t_69 (d := d + 2) (S := opP m cs) (j := 71) hb he h1 hzn hv hcr k4 hcr9 (tg_vi hz (by decide) rfl rfl) (show 2 ≤ _ by decide) (fun K' q => t_71 q) ?_
    rw [egl]
    rw [hk, if_neg (show ¬ (3 : Nat) = 1 by decide), if_neg (show ¬ (3 : Nat) = 2 by decide), if_pos rfl] at h
    exact h
  · have hz : zk (zCS ++ X) t = 9 := by rw [p2, hk]; rfl
    have hzn : zand (zhas [2, 9] (zk (zCS ++ X) t)) (Nat.blt 1 (zn (zCS ++ X) t)) = true := by rw [hz, p3, if_neg (by omega)]; rfl
    refine t_69 (d := d + 2) (S := fun k => k ∈ sSpar (gl (opP m cs) 32)) (j := 70) hb he (fun g q => ((gl_mem _ _ _).mp (sSpar_mem.mp q).1).2.1) hzn hv hcr k4 hcr9 (tg_vi hz (by decide) rfl rfl) (show 2 ≤ _ by decide) (fun K' q => t_70 (d := d + 1) h1 q) ?_
    rw [gl_sp, egl]
    rw [hk, if_neg (show ¬ (6 : Nat) = 1 by decide), if_neg (show ¬ (6 : Nat) = 2 by decide), if_neg (show ¬ (6 : Nat) = 3 by decide), if_neg (show ¬ (6 : Nat) = 4 by decide), if_neg (show ¬ (6 : Nat) = 5 by decide), if_pos rfl] at h
    by_cases q : gl (mGoes m) 32 = []
    · rw [q]
      rw [if_pos q] at h
      exact h
    · have : sSpar (gl (mGoes m) 32) ≠ [] := fun z => by
        have := sSpar_pos q (fun x hx => ((gl_mem _ _ _).mp hx).1)
        rw [z] at this
        exact absurd this (by decide)
      rw [if_neg this]
      rw [if_neg q] at h
      exact h
end PICK
