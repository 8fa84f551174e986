/-! The class: acts. -/
def cTr (c : zI) (l : List Nat) : Prop := c 34 0 = Int32.ofNat l.length ∧ ∀ j, j < l.length → j < 20 → c 34 (1 + j) = Int32.ofNat (l.getD j 0)
/-- plan p, of kind kd and number v, is cell t -/
def cAc (X : zS) (fr nx : Nat) (P : zR0) (t p kd : Nat) (v : Int32) (c : zI) : Prop := 74 ≤ t ∧ zk (zCS ++ X) t = zKd kd ∧ kd < 7 ∧ 4 ≤ zn (zCS ++ X) t ∧ zCR fr nx P t 3 = 35 ∧ c t 1 = v ∧ c t 2 = Int32.ofNat p
theorem cAc_A {X : zS} {fr nx : Nat} {P : zR0} {t p kd : Nat} {v : Int32} {c c' : zI} (h : mA 34 c c') (q : cAc X fr nx P t p kd v c) : cAc X fr nx P t p kd v c' := by
  obtain ⟨a, b, e, f, g, i, j⟩ := q
  exact ⟨a, b, e, f, g, by rw [h t 1 (by omega)]; exact i, by rw [h t 2 (by omega)]; exact j⟩
theorem mA_tr {q : Nat} {a b c : zI} (h : mA q a b) (h' : mA q b c) : mA q a c := fun x k z => by rw [h' x k z, h x k z]
section ACTC
variable {d : Nat} {X : zS} {fr nx : Nat} {P : zR0} {c : zI} {lc : zJ}
theorem kd_z {t p kd k : Nat} {v : Int32} (h : cAc X fr nx P t p kd v c) (hk : k < 4) : zand (zhas [0, 1, 2, 3, 5, 9, 10] (zk (zCS ++ X) t)) (Nat.blt k (zn (zCS ++ X) t)) = true := by
  rw [h.2.1, (kd_class _ h.2.2.1).1]
  exact Nat.ble_eq_true_of_le (by have := h.2.2.2.1; omega)
theorem t_135 {K : zI → zJ → Prop} {t p kd b : Nat} {v : Int32} {l : List Nat} (hc : cAc X fr nx P t p kd v c) (hT : cTr c l) (hl : l.length < 1000) (h : ∀ c', mA 34 c c' → cTr c' (l ++ [b]) → K c' lc) : TV (d + 1) 135 [.ref t, .int (Int32.ofNat b)] (zCS ++ X) (zCR fr nx P) c lc K := by
  have g := kd_z hc (k := 3) (by decide)
  have hr := hc.2.2.2.2.1
  have ne : zCR fr nx P t 3 ≠ 0 := by rw [hr]; decide
  have to : ∀ c1, zCR fr nx P t 3 = c1 + 1 → c1 = 34 := fun c1 e => by rw [hr] at e; omega
  have hz : zin 0 (zn (zCS ++ X) 34) = true := (by decide : zin 0 21 = true)
  have g0 : ∀ j, j < l.length → (l ++ [b]).getD j 0 = l.getD j 0 := fun j hj => by simp only [List.getD_eq_getElem?_getD]; rw [List.getElem?_append_left hj]
  obtain ⟨t1, t2⟩ := hT
  have ev : zu c 34 0 (c 34 0 + 1) 34 0 = Int32.ofNat (l.length + 1) := by rw [zu_eq, t1, n_suc]
  have e21 : Int32.ofNat (zn (zCS ++ X) 34) = Int32.ofNat 21 := rfl
  refine TV_of (B_135 t _ ⟨g, ne, fun c1 e1 => ?_⟩)
  obtain rfl := to c1 e1
  refine ⟨rfl, hz, rfl, hz, g, ne, fun c2 e2 => ?_⟩
  obtain rfl := to c2 e2
  refine ⟨rfl, hz, ?_⟩
  rw [ev]
  refine ⟨fun x => absurd ((n_le (b := 0) (by omega) (by decide)).mp x) (by omega), fun _ => ⟨g, ne, fun c3 e3 => ?_⟩⟩
  obtain rfl := to c3 e3
  refine ⟨rfl, hz, g, ne, fun c4 e4 => ?_⟩
  obtain rfl := to c4 e4
  rw [ev, e21]
  refine ⟨rfl, fun x => ?_, fun x => ⟨g, ne, fun c5 e5 => ?_⟩⟩
  · have hge := (n_le (by omega) (by omega)).mp x
    refine h _ (mA.put mA.rfl) ⟨by rw [ev, List.length_append]; rfl, fun j hj hj2 => ?_⟩
    rw [zu_nk (by omega), g0 j (by omega)]; exact t2 j (by omega) hj2
  · obtain rfl := to c5 e5
    refine ⟨g, ne, fun c6 e6 => ?_⟩
    obtain rfl := to c6 e6
    have hlt : l.length + 1 < 21 := Nat.lt_of_not_le (fun z => x ((n_le (by omega) (by omega)).mpr z))
    rw [ev]
    refine ⟨rfl, hz, rfl, n_zin (n := 21) hlt (by decide), ?_⟩
    rw [n_cl (show l.length + 1 < 2147483648 by omega)]
    refine h _ (mA.put (mA.put mA.rfl)) ⟨by rw [zu_nk (by omega), ev, List.length_append]; rfl, fun j hj hj2 => ?_⟩
    rw [List.length_append, List.length_singleton] at hj
    by_cases e : j = l.length
    · subst e
      rw [Nat.add_comm 1, zu_eq]
      simp [List.getD_eq_getElem?_getD]
    · rw [zu_nk (by omega), zu_nk (by omega), g0 j (by omega)]; exact t2 j (by omega) hj2
/-- a body begins, by a site v -/
theorem b_beg {K : zI → zJ → Prop} {t p kd b s : Nat} {v : Int32} {l : List Nat} (hc : cAc X fr nx P t p kd v c) (hT : cTr c l) (hl : l.length < 1000) (hv : (zV s).2.1 = 1) (hs : (zV s).2.2.lookup (zKd kd) = some 135) (h : ∀ c', mA 34 c c' → cAc X fr nx P t p kd v c' → cTr c' (l ++ [b]) → K c' lc) :
    ∃ j1, ztg (zCS ++ X) s [.ref t, .int (Int32.ofNat b)] = some j1 ∧ (zarg [.ref t, .int (Int32.ofNat b)]).length ≤ (zM j1).1 ∧ TV (d + 1) j1 [.ref t, .int (Int32.ofNat b)] (zCS ++ X) (zCR fr nx P) c lc K :=
  ⟨135, tg_vi hc.2.1 (kd_class _ hc.2.2.1).2 hv hs, show 2 ≤ _ by decide, t_135 hc hT hl (fun c' f T => h c' f (cAc_A f hc) T)⟩
/-- a body of the class above -/
theorem b_sup {K : Int32 → zI → zJ → Prop} {t p kd s j : Nat} {v x : Int32} (hc : cAc X fr nx P t p kd v c) (hv : (zV s).2.1 = 2) (hs : (zV s).2.2 = [(99, j)]) (hM : 2 ≤ (zM j).1) (h : TI d j [.ref t, .int x] (zCS ++ X) (zCR fr nx P) c lc K) :
    ∃ j1, ztg (zCS ++ X) s [.ref t, .int x] = some j1 ∧ (zarg [.ref t, .int x]).length ≤ (zM j1).1 ∧ TI d j1 [.ref t, .int x] (zCS ++ X) (zCR fr nx P) c lc K :=
  ⟨j, tg_sp (q := (99, j)) (by rw [hc.2.1]; exact (kd_class _ hc.2.2.1).2) hv hs, hM, h⟩
theorem b_vir {K : Int32 → zI → zJ → Prop} {t p kd s j : Nat} {v x : Int32} (hc : cAc X fr nx P t p kd v c) (hv : (zV s).2.1 = 1) (hs : (zV s).2.2.lookup (zKd kd) = some j) (hM : 2 ≤ (zM j).1) (h : TI d j [.ref t, .int x] (zCS ++ X) (zCR fr nx P) c lc K) :
    ∃ j1, ztg (zCS ++ X) s [.ref t, .int x] = some j1 ∧ (zarg [.ref t, .int x]).length ≤ (zM j1).1 ∧ TI d j1 [.ref t, .int x] (zCS ++ X) (zCR fr nx P) c lc K :=
  ⟨j, tg_vi hc.2.1 (kd_class _ hc.2.2.1).2 hv hs, hM, h⟩
theorem kd_133 : ∀ kd : Nat, kd < 7 → (zV 133).2.2.lookup (zKd kd) = some 135 := by decide
def jTak (kd : Nat) : Nat := if kd = 2 ∨ kd = 5 then 136 else if kd = 4 then 134 else if kd = 6 then 137 else 138
def jRow (kd : Nat) : Nat := if kd = 1 then 140 else if kd = 4 then 139 else if kd = 6 then 141 else 142
def jTel (kd : Nat) : Nat := if kd = 3 ∨ kd = 6 then 143 else if kd = 5 then 144 else 145
theorem kd_tak : ∀ kd : Nat, kd < 7 → (zV 138).2.2.lookup (zKd kd) = some (jTak kd) ∧ (zV 124).2.2.lookup (zKd kd) = some (jTak kd) ∧ 2 ≤ (zM (jTak kd)).1 := by decide
theorem kd_row : ∀ kd : Nat, kd < 7 → (zV 144).2.2.lookup (zKd kd) = some (jRow kd) ∧ (zV 125).2.2.lookup (zKd kd) = some (jRow kd) ∧ 2 ≤ (zM (jRow kd)).1 := by decide
theorem kd_tel : ∀ kd : Nat, kd < 7 → (zV 126).2.2.lookup (zKd kd) = some (jTel kd) ∧ 2 ≤ (zM (jTel kd)).1 := by decide
theorem t_138 {K : Int32 → zI → zJ → Prop} {t p kd : Nat} {v x : Int32} {l : List Nat} (hc : cAc X fr nx P t p kd v c) (hT : cTr c l) (hl : l.length < 1000) (h : ∀ c', mA 34 c c' → cAc X fr nx P t p kd v c' → cTr c' (l ++ [10]) → K (x + Int32.ofNat p) c' lc) : TI (d + 2) 138 [.ref t, .int x] (zCS ++ X) (zCR fr nx P) c lc K := by
  refine TI_of (B_138 t _ (b_beg (d := d) (b := 10) hc hT hl rfl (kd_133 _ hc.2.2.1) (fun c' f hc' T => ⟨kd_z hc' (by decide), ?_⟩)))
  rw [hc'.2.2.2.2.2.2]
  exact h c' f hc' T
theorem t_tak {K : Int32 → zI → zJ → Prop} {t p kd : Nat} {v x : Int32} {l : List Nat} (hc : cAc X fr nx P t p kd v c) (hT : cTr c l) (hl : l.length < 900) (h : ∀ c', mA 34 c c' → cAc X fr nx P t p kd v c' → cTr c' (l ++ (aTak (Int32.ofNat p) v kd x).2) → K (aTak (Int32.ofNat p) v kd x).1 c' lc) : TI (d + 3) (jTak kd) [.ref t, .int x] (zCS ++ X) (zCR fr nx P) c lc K := by
  have l1 : ∀ b, (l ++ [b]).length < 1000 := fun b => by rw [List.length_append, List.length_singleton]; omega
  have hk7 : kd = 0 ∨ kd = 1 ∨ kd = 2 ∨ kd = 3 ∨ kd = 4 ∨ kd = 5 ∨ kd = 6 := by have := hc.2.2.1; omega
  have need : (kd = 2 ∨ kd = 5) → TI (d + 3) 136 [.ref t, .int x] (zCS ++ X) (zCR fr nx P) c lc K := fun k => by
    have e : aTak (Int32.ofNat p) v kd x = (x * 3 + Int32.ofNat p, [30, 10]) := by unfold aTak; rw [if_pos k]
    rw [e] at h
    refine TI_of (B_136 t _ (b_beg (d := d + 1) (b := 30) hc hT (by omega) rfl (by rcases k with rfl | rfl <;> rfl) (fun c1 f1 hc1 T1 => b_sup hc1 rfl rfl (by decide) (t_138 (d := d) hc1 T1 (l1 _) (fun c2 f2 hc2 T2 => ?_)))))
    exact h c2 (mA_tr f1 f2) hc2 (by simpa using T2)
  have base : (kd = 0 ∨ kd = 1 ∨ kd = 3) → TI (d + 3) 138 [.ref t, .int x] (zCS ++ X) (zCR fr nx P) c lc K := fun k => by
    have e : aTak (Int32.ofNat p) v kd x = (x + Int32.ofNat p, [10]) := by unfold aTak; rw [if_neg (by omega), if_neg (by omega), if_neg (by omega)]
    rw [e] at h
    exact t_138 (d := d + 1) hc hT (by omega) h
  rcases hk7 with rfl | rfl | rfl | rfl | rfl | rfl | rfl
  · exact base (by decide)
  · exact base (by decide)
  · exact need (by decide)
  · exact base (by decide)
  · refine TI_of (B_134 t _ (b_beg (d := d + 1) (b := 50) hc hT (by omega) rfl rfl (fun c1 f1 hc1 T1 => b_sup hc1 rfl rfl (by decide) (t_138 (d := d) hc1 T1 (l1 _) (fun c2 f2 hc2 T2 => ?_)))))
    exact h c2 (mA_tr f1 f2) hc2 (by simpa [aTak] using T2)
  · exact need (by decide)
  · refine TI_of (B_137 t _ (b_beg (d := d + 1) (b := 71) hc hT (by omega) rfl rfl (fun c1 f1 hc1 T1 => b_sup hc1 rfl rfl (by decide) (t_138 (d := d) hc1 T1 (l1 _) (fun c2 f2 hc2 T2 => ⟨?_, ?_⟩)))))
    · have := kd_z hc2 (k := 1) (by decide)
      rw [hc2.2.1] at this ⊢
      exact this
    · rw [hc2.2.2.2.2.2.1]
      exact h c2 (mA_tr f1 f2) hc2 (by simpa [aTak] using T2)
theorem t_142 {K : Int32 → zI → zJ → Prop} {t p kd : Nat} {v x : Int32} {l : List Nat} (hc : cAc X fr nx P t p kd v c) (hT : cTr c l) (hl : l.length < 850) (h : ∀ c', mA 34 c c' → cAc X fr nx P t p kd v c' → cTr c' (l ++ 11 :: (aTak (Int32.ofNat p) v kd x).2) → K ((aTak (Int32.ofNat p) v kd x).1 - v) c' lc) : TI (d + 4) 142 [.ref t, .int x] (zCS ++ X) (zCR fr nx P) c lc K := by
  obtain ⟨q1, q2, q3⟩ := kd_tak kd hc.2.2.1
  refine TI_of (B_142 t _ (b_beg (d := d + 2) (b := 11) hc hT (by omega) rfl (kd_133 _ hc.2.2.1) (fun c1 f1 hc1 T1 => b_vir hc1 rfl q1 q3 (t_tak (d := d) hc1 T1 (by rw [List.length_append, List.length_singleton]; omega) (fun c2 f2 hc2 T2 => ⟨kd_z hc2 (by decide), ?_⟩)))))
  rw [hc2.2.2.2.2.2.1]
  exact h c2 (mA_tr f1 f2) hc2 (by simpa using T2)
theorem t_140 {K : Int32 → zI → zJ → Prop} {t p kd : Nat} {v x : Int32} {l : List Nat} (hk : kd = 1 ∨ kd = 4) (hc : cAc X fr nx P t p kd v c) (hT : cTr c l) (hl : l.length < 840) (h : ∀ c', mA 34 c c' → cAc X fr nx P t p kd v c' → cTr c' (l ++ 20 :: 11 :: (aTak (Int32.ofNat p) v kd x).2) → K (((aTak (Int32.ofNat p) v kd x).1 - v) ^^^ 6) c' lc) : TI (d + 5) 140 [.ref t, .int x] (zCS ++ X) (zCR fr nx P) c lc K := by
  refine TI_of (B_140 t _ (b_beg (d := d + 3) (b := 20) hc hT (by omega) rfl (by rcases hk with rfl | rfl <;> rfl) (fun c1 f1 hc1 T1 => b_sup hc1 rfl rfl (by decide) (t_142 (d := d) hc1 T1 (by rw [List.length_append, List.length_singleton]; omega) (fun c2 f2 hc2 T2 => ?_)))))
  exact h c2 (mA_tr f1 f2) hc2 (by simpa using T2)
theorem t_row {K : Int32 → zI → zJ → Prop} {t p kd : Nat} {v x : Int32} {l : List Nat} (hc : cAc X fr nx P t p kd v c) (hT : cTr c l) (hl : l.length < 800) (h : ∀ c', mA 34 c c' → cAc X fr nx P t p kd v c' → cTr c' (l ++ (aRow (Int32.ofNat p) v kd kd x).2) → K (aRow (Int32.ofNat p) v kd kd x).1 c' lc) : TI (d + 6) (jRow kd) [.ref t, .int x] (zCS ++ X) (zCR fr nx P) c lc K := by
  have hk7 : kd = 0 ∨ kd = 1 ∨ kd = 2 ∨ kd = 3 ∨ kd = 4 ∨ kd = 5 ∨ kd = 6 := by have := hc.2.2.1; omega
  have base : (kd = 0 ∨ kd = 2 ∨ kd = 3 ∨ kd = 5) → TI (d + 6) 142 [.ref t, .int x] (zCS ++ X) (zCR fr nx P) c lc K := fun k => by
    have e : aRow (Int32.ofNat p) v kd kd x = ((aTak (Int32.ofNat p) v kd x).1 - v, 11 :: (aTak (Int32.ofNat p) v kd x).2) := by unfold aRow; rw [if_neg (by omega), if_neg (by omega), if_neg (by omega)]
    rw [e] at h
    exact t_142 (d := d + 2) hc hT (by omega) h
  rcases hk7 with rfl | rfl | rfl | rfl | rfl | rfl | rfl
  · exact base (by decide)
  · exact t_140 (d := d + 1) (by decide) hc hT (by omega) h
  · exact base (by decide)
  · exact base (by decide)
  · refine TI_of (B_139 t _ (b_beg (d := d + 4) (b := 51) hc hT (by omega) rfl rfl (fun c1 f1 hc1 T1 => b_sup hc1 rfl rfl (by decide) (t_140 (d := d) (by decide) hc1 T1 (by rw [List.length_append, List.length_singleton]; omega) (fun c2 f2 hc2 T2 => ?_)))))
    exact h c2 (mA_tr f1 f2) hc2 (by simpa [aRow] using T2)
  · exact base (by decide)
  · have h1 := aTak_len (Int32.ofNat p) v 6 x
    refine TI_of (B_141 t _ (b_beg (d := d + 4) (b := 70) hc hT (by omega) rfl rfl (fun c1 f1 hc1 T1 => b_sup hc1 rfl rfl (by decide) (t_142 (d := d + 1) hc1 T1 (by rw [List.length_append, List.length_singleton]; omega) (fun c2 f2 hc2 T2 => b_sup hc2 rfl rfl (by decide) (t_138 (d := d + 3) hc2 T2 (by simp only [List.length_append, List.length_cons, List.length_nil]; omega) (fun c3 f3 hc3 T3 => ?_)))))))
    exact h c3 (mA_tr (mA_tr f1 f2) f3) hc3 (by simpa [aRow] using T3)
theorem t_145 {K : Int32 → zI → zJ → Prop} {t p kd : Nat} {v x : Int32} {l : List Nat} (hc : cAc X fr nx P t p kd v c) (hT : cTr c l) (hl : l.length < 750) (h : ∀ c', mA 34 c c' → cAc X fr nx P t p kd v c' → cTr c' (l ++ 12 :: (aRow (Int32.ofNat p) v kd kd x).2) → K ((aRow (Int32.ofNat p) v kd kd x).1 * 2) c' lc) : TI (d + 7) 145 [.ref t, .int x] (zCS ++ X) (zCR fr nx P) c lc K := by
  obtain ⟨q1, q2, q3⟩ := kd_row kd hc.2.2.1
  refine TI_of (B_145 t _ (b_beg (d := d + 5) (b := 12) hc hT (by omega) rfl (kd_133 _ hc.2.2.1) (fun c1 f1 hc1 T1 => b_vir hc1 rfl q1 q3 (t_row (d := d) hc1 T1 (by rw [List.length_append, List.length_singleton]; omega) (fun c2 f2 hc2 T2 => ?_)))))
  exact h c2 (mA_tr f1 f2) hc2 (by simpa using T2)
theorem t_tel {K : Int32 → zI → zJ → Prop} {t p kd : Nat} {v x : Int32} {l : List Nat} (hc : cAc X fr nx P t p kd v c) (hT : cTr c l) (hl : l.length < 700) (h : ∀ c', mA 34 c c' → cAc X fr nx P t p kd v c' → cTr c' (l ++ (aTel (Int32.ofNat p) v kd kd x).2) → K (aTel (Int32.ofNat p) v kd kd x).1 c' lc) : TI (d + 8) (jTel kd) [.ref t, .int x] (zCS ++ X) (zCR fr nx P) c lc K := by
  have hk7 : kd = 0 ∨ kd = 1 ∨ kd = 2 ∨ kd = 3 ∨ kd = 4 ∨ kd = 5 ∨ kd = 6 := by have := hc.2.2.1; omega
  have l1 : ∀ b, (l ++ [b]).length < 740 := fun b => by rw [List.length_append, List.length_singleton]; omega
  have base : (kd = 0 ∨ kd = 1 ∨ kd = 2 ∨ kd = 4) → TI (d + 8) 145 [.ref t, .int x] (zCS ++ X) (zCR fr nx P) c lc K := fun k => by
    have e : aTel (Int32.ofNat p) v kd kd x = ((aRow (Int32.ofNat p) v kd kd x).1 * 2, 12 :: (aRow (Int32.ofNat p) v kd kd x).2) := by unfold aTel; rw [if_neg (by omega), if_neg (by omega)]
    rw [e] at h
    exact t_145 (d := d + 1) hc hT (by omega) h
  have lot : (kd = 3 ∨ kd = 6) → TI (d + 8) 143 [.ref t, .int x] (zCS ++ X) (zCR fr nx P) c lc K := fun k => by
    have e : aTel (Int32.ofNat p) v kd kd x = ((aRow (Int32.ofNat p) v kd kd x).1 * 2 + (aRow (Int32.ofNat p) v kd kd 1).1, 40 :: 12 :: ((aRow (Int32.ofNat p) v kd kd x).2 ++ (aRow (Int32.ofNat p) v kd kd 1).2)) := by unfold aTel; rw [if_pos k]
    rw [e] at h
    have h5 := aRow_len (Int32.ofNat p) v kd kd x
    obtain ⟨q1, q2, q3⟩ := kd_row kd hc.2.2.1
    have q4 : (zV 141).2.2.lookup (zKd kd) = some (jRow kd) := by rcases k with rfl | rfl <;> rfl
    refine TI_of (B_143 t _ (b_beg (d := d + 6) (b := 40) hc hT (by omega) rfl (by rcases k with rfl | rfl <;> rfl) (fun c1 f1 hc1 T1 => b_sup hc1 rfl rfl (by decide) (t_145 (d := d) hc1 T1 (by have := l1 40; omega) (fun c2 f2 hc2 T2 => b_vir hc2 rfl q4 q3 (t_row (d := d + 1) hc2 T2 (by simp only [List.length_append, List.length_cons, List.length_nil]; omega) (fun c3 f3 hc3 T3 => ?_)))))))
    exact h c3 (mA_tr (mA_tr f1 f2) f3) hc3 (by simpa using T3)
  rcases hk7 with rfl | rfl | rfl | rfl | rfl | rfl | rfl
  · exact base (by decide)
  · exact base (by decide)
  · exact base (by decide)
  · exact lot (by decide)
  · exact base (by decide)
  · refine TI_of (B_144 t _ (b_beg (d := d + 6) (b := 60) hc hT (by omega) rfl rfl (fun c1 f1 hc1 T1 => ⟨?_, ?_⟩)))
    · have := kd_z hc1 (k := 2) (by decide)
      rw [hc1.2.1] at this ⊢
      exact this
    · rw [hc1.2.2.2.2.2.2]
      refine b_sup hc1 rfl rfl (by decide) (t_145 (d := d) hc1 T1 (by have := l1 60; omega) (fun c2 f2 hc2 T2 => ?_))
      exact h c2 (mA_tr f1 f2) hc2 (by simpa [aTel] using T2)
  · exact lot (by decide)
end ACTC
