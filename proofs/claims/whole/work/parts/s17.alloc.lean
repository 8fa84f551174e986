-- @after: 00.privs 01.names 02.code 03.tabs 04.mach 05.rows 06.facts 07.check 09.world 10.inrange 11.step 12.step2 13.step3 14.step4 15.step5 16.mna
/-! what is made -/
theorem zw9_ne {α : Type} {f : Nat → Nat → α} {c a : Nat} {v : α} (h : a ≠ c) : zw0 f c v a = f a := by funext b; simp [zw0, h]
theorem zw9_at {α : Type} {f : Nat → Nat → α} {c : Nat} {v : α} : zw0 f c v c = fun _ => v := by funext b; simp [zw0]
def zad1 (ad : Nat → Nat) (n q : Nat) : Nat → Nat := fun a => if a = n then q else ad a
theorem zad1_lt {ad : Nat → Nat} {n q : Nat} : ∀ c, c < n → zad1 ad n q c = ad c := fun c h => by simp [zad1, Nat.ne_of_lt h]
theorem zad1_at {ad : Nat → Nat} {n q : Nat} : zad1 ad n q n = q := by simp [zad1]
def znof (ci k : Nat) : Bool := match zyy ci k with
  | .float => false
  | .double => false
  | _ => true
theorem znof_ok : ∀ ci, ci < 13 → ∀ k, k < 60 → znof ci k = true := by decide +kernel
theorem zsv_def {ad : Nat → Nat} {R : zR0} {mi : zI} {ml : zJ} {c k : Nat} {ty : FieldType} (hR : R c k = 0) (hm : mi c k = 0) (hl : ml c k = 0) (hf : ty ≠ .float ∧ ty ≠ .double) : zsv9 ad R mi ml c k ty = defaultValue ty := by
  cases ty <;> simp_all [zsv9, defaultValue, zrf, zrn, va_rf]
section STEP
variable {p : Program} {l : Launch} {e : Env} {Rm : Room} {s : State} {m : MethodId} {args : Array Value} {below : List Frame} {meth : Method} {c : Code} {H : Heap} {locs : List Loc} {cells slots : Nat} {Q : State → Prop}
variable {D : va_G} {cA sp ad : Nat → Nat} {A : Nat → Prop} {j i pc len : Nat} {raw I : Instr} {L st L1 st1 : List Value} {S S1 : zS} {R R1 : zR0} {mi mi1 : zI} {ml ml1 : zJ} {ls : Array Slot} {q : zT}
/-- one cell more -/
theorem zmore {st' : List Value} {ci n q0 : Nat} {ee : va_E} {H1 : Heap} {pc1 : Nat} (kk : zKK p l e Rm s m args below meth c cells slots Q D cA sp ad A j i S q) (hn : znx (zR j) (i + 1) pc1 = true) (hg : zgd9 S.length L st' R) (hl : zlr ad sp L ls)
    (hq : q = (L, .ref S.length :: st', S ++ [(ci, n)], zw0 R S.length 0, zw0 mi S.length 0, zw0 ml S.length 0)) (he : zce (zad1 ad S.length q0) cA (zw0 R S.length 0) (zw0 mi S.length 0) (zw0 ml S.length 0) S.length (ci, n) = ee)
    (a1 : va_P D zcl (zws ad cA S R mi ml ++ [(q0, ee)]) H1) (a2 : va_D A (zws ad cA S R mi ml ++ [(q0, ee)])) (a3 : va_S A s.heap H1 locs) :
    W p l e Rm s m args below meth c H1 locs (cells + 1) (slots + n) Q (F0 m pc1 ls (.ref q0 :: st'.map (zvv ad sp))) := by
  subst hq
  have hws : zws (zad1 ad S.length q0) cA (S ++ [(ci, n)]) (zw0 R S.length 0) (zw0 mi S.length 0) (zw0 ml S.length 0) = zws ad cA S R mi ml ++ [(q0, ee)] := by
    rw [zws_app zad1_lt hg.2.2 (fun c h => zw9_ne (Nat.ne_of_lt h)) (fun c h => zw9_ne (Nat.ne_of_lt h)) (fun c h => zw9_ne (Nat.ne_of_lt h))]
    congr 1
    simp only [List.mapIdx_cons, List.mapIdx_nil, Nat.add_zero]
    rw [zad1_at, he]
  rw [← hws] at a1 a2
  have h := kk pc1 hn (zad1 ad S.length q0) H1 locs ls (cells + 1) (slots + n) zad1_lt (by show cells + 1 + S.length = cells + (S ++ [(ci, n)]).length; rw [List.length_append]; simp; omega) (by show slots + n + zsl S = slots + zsl (S ++ [(ci, n)]); rw [zsl_app]; simp [zsl]; omega) ⟨a1, a2, a3, hl.ad zad1_lt hg.1⟩
  have e1 : (Value.ref S.length :: st').map (zvv (zad1 ad S.length q0) sp) = .ref q0 :: st'.map (zvv ad sp) := by
    rw [List.map_cons, zmap_ad zad1_lt hg.2.1]
    simp [zvv, zad1_at]
  rw [← e1]
  exact h
theorem z_new1 {ci : Nat} (h : ci < 13) (h5 : ci ≠ 12 ∧ ci ≠ 11) : Cond.initialized (zOwn ci) ∈ zwT ∧ ∃ T N, zcl[ci]? = some (zOwn ci, T, N) ∧ Cond.instantiable (zOwn ci) N ∈ zwT := by
  have go : ∀ (C : String) (N : Nat), zHas (.initialized C) = true → zHas (.instantiable C N) = true → Cond.initialized C ∈ zwT ∧ Cond.instantiable C N ∈ zwT := fun C N a b => ⟨zmem_wT (zhas_mem a) rfl, zmem_wT (zhas_mem b) rfl⟩
  match ci, h with
  | 0, _ => exact ⟨(go _ 4 (by decide +kernel) (by decide +kernel)).1, _, _, rfl, (go _ 4 (by decide +kernel) (by decide +kernel)).2⟩
  | 1, _ => exact ⟨(go _ 4 (by decide +kernel) (by decide +kernel)).1, _, _, rfl, (go _ 4 (by decide +kernel) (by decide +kernel)).2⟩
  | 2, _ => exact ⟨(go _ 4 (by decide +kernel) (by decide +kernel)).1, _, _, rfl, (go _ 4 (by decide +kernel) (by decide +kernel)).2⟩
  | 3, _ => exact ⟨(go _ 4 (by decide +kernel) (by decide +kernel)).1, _, _, rfl, (go _ 4 (by decide +kernel) (by decide +kernel)).2⟩
  | 4, _ => exact ⟨(go _ 10 (by decide +kernel) (by decide +kernel)).1, _, _, rfl, (go _ 10 (by decide +kernel) (by decide +kernel)).2⟩
  | 5, _ => exact ⟨(go _ 4 (by decide +kernel) (by decide +kernel)).1, _, _, rfl, (go _ 4 (by decide +kernel) (by decide +kernel)).2⟩
  | 6, _ => exact ⟨(go _ 4 (by decide +kernel) (by decide +kernel)).1, _, _, rfl, (go _ 4 (by decide +kernel) (by decide +kernel)).2⟩
  | 7, _ => exact ⟨(go _ 9 (by decide +kernel) (by decide +kernel)).1, _, _, rfl, (go _ 9 (by decide +kernel) (by decide +kernel)).2⟩
  | 8, _ => exact ⟨(go _ 11 (by decide +kernel) (by decide +kernel)).1, _, _, rfl, (go _ 11 (by decide +kernel) (by decide +kernel)).2⟩
  | 9, _ => exact ⟨(go _ 4 (by decide +kernel) (by decide +kernel)).1, _, _, rfl, (go _ 4 (by decide +kernel) (by decide +kernel)).2⟩
  | 10, _ => exact ⟨(go _ 6 (by decide +kernel) (by decide +kernel)).1, _, _, rfl, (go _ 6 (by decide +kernel) (by decide +kernel)).2⟩
  | 11, _ => exact absurd rfl h5.2
  | 12, _ => exact absurd rfl h5.1
theorem znew_row {ci : Nat} (hF : zFx j p s m args meth c D cA sp A) (hck : zck (zM j).2.1 (zR j) i pc raw len (.new ci) = true) (h5 : ci ≠ 12 ∧ ci ≠ 11) (hdec : len ≠ 0 → decode (zY j).2.1 pc = .ok (raw, len)) (hown : zOwn (zM j).2.1 = (zY j).1.cls) (hg : zgd9 S.length L st R)
    (hs : zst (.new ci) L st S R mi ml = some q) (hcap : cells + q.2.2.1.length ≤ Rm.cells + S.length ∧ slots + zsl q.2.2.1 ≤ Rm.slots + zsl S) (hrel : zRel D cA sp ad A s S R mi ml H locs L ls)
    (kk : zKK p l e Rm s m args below meth c cells slots Q D cA sp ad A j i S q) : W p l e Rm s m args below meth c H locs cells slots Q (F0 m pc ls (st.map (zvv ad sp))) := by
  obtain ⟨hx, hb, -, hr, ho, hts, hlocks, hnm, hK, hA, hE⟩ := id hF
  cases raw <;> simp only [zck, Bool.and_eq_true, beq_iff_eq, Bool.false_eq_true, decide_eq_true_eq] at hck
  obtain ⟨⟨⟨h13, h1⟩, rfl⟩, hn⟩ := hck
  obtain ⟨hini, T, N, hcl, hins⟩ := z_new1 h13 h5
  simp only [zst, hcl, znew] at hs
  have hq := (Option.some.inj hs).symm
  have hN : N ≤ 60 := by
    match ci, h13, hcl with
    | 0, _, h => cases h; decide
    | 1, _, h => cases h; decide
    | 2, _, h => cases h; decide
    | 3, _, h => cases h; decide
    | 4, _, h => cases h; decide
    | 5, _, h => cases h; decide
    | 6, _, h => cases h; decide
    | 7, _, h => cases h; decide
    | 8, _, h => cases h; decide
    | 9, _, h => cases h; decide
    | 10, _, h => cases h; decide
    | 11, _, h => cases h; decide
    | 12, _, h => cases h; decide
  have hc1 : cells + 1 ≤ Rm.cells ∧ slots + N ≤ Rm.slots := by
    rw [hq] at hcap
    simp only [List.length_append, zsl_app, List.length_cons, List.length_nil] at hcap
    simp [zsl] at hcap
    omega
  refine va_new (ci := ci) (fs := (List.range N).map (fun k => zsv9 ad (zw0 R S.length 0) (zw0 mi S.length 0) (zw0 ml S.length 0) S.length k (zyy ci k))) hx hb hts (zuT hcl).1 (zyy ci) (zuT hcl).2.2.1 (by rw [hown]; exact ho) (zhas_tab hts h1 rfl) (hts _ hins) (hts _ hini) hK hrel.1 hrel.2.1 hrel.2.2.1 hA hcl ?_ hc1.1 hc1.2 (hdec (by decide)) (fun q0 H1 a1 a2 a3 => ?_)
  · intro k hk
    have h0 := znof_ok ci h13 k (by omega)
    unfold znof at h0
    have e1 := zsv_def (ad := ad) (R := zw0 R S.length 0) (mi := zw0 mi S.length 0) (ml := zw0 ml S.length 0) (c := S.length) (k := k) (ty := zyy ci k) (by rw [zw9_at]) (by rw [zw9_at]) (by rw [zw9_at]) ⟨(fun z => by rw [z] at h0; cases h0), (fun z => by rw [z] at h0; cases h0)⟩
    rw [← e1]
    simp [vp_V, hk]
  · refine zmore kk hn hg hrel.2.2.2 hq ?_ a1 a2 a3
    rw [zce_obj h13]
    congr 2
    apply List.map_congr_left
    intro k _
    unfold zsv9
    simp only [zw9_at]
    rfl
theorem zRA_eq {k : Nat} {cB : ClassId} {ty : FieldType} {tys : List (ClassId × FieldType)} {cl : List vw_C} (hK : va_K D cl (tys ++ [(cB, ty)]) s) {cC : ClassId} (h : tys[k]? = some (cC, ty)) : cB = cC := by
  have h1 := (hK.2 tys.length (cB, ty) (by rw [List.getElem?_append_right (Nat.le_refl _)]; simp)).2
  have h2 := (hK.2 k (cC, ty) (by rw [List.getElem?_append_left (List.getElem?_eq_some_iff.mp h).1]; exact h)).2
  cases ty with
  | object C =>
    obtain ⟨_, _, _, _, _, e1⟩ := h1
    obtain ⟨_, _, _, _, _, e2⟩ := h2
    exact Option.some.inj (e1.symm.trans e2)
  | _ => exact Option.some.inj ((show s.vm.findClass _ = some cB from h1).symm.trans h2)
theorem znewa_inv {ci : Nat} (h : znewa ci L st S R mi ml = some q) : ∃ n st', st = .int n :: st' ∧ ¬ n < 0 ∧ n.toNatClampNeg ≤ 100000 ∧ q = (L, .ref S.length :: st', S ++ [(ci, n.toNatClampNeg)], zw0 R S.length 0, zw0 mi S.length 0, zw0 ml S.length 0) := by
  unfold znewa at h
  split at h
  · split at h
    · rename_i hc
      exact ⟨_, _, rfl, hc.1, hc.2, (Option.some.inj h).symm⟩
    · cases h
  · cases h
theorem z_arr : Cond.arrayClass .int ∈ zwT ∧ Cond.arrayClass .long ∈ zwT ∧ Cond.arrayClass .byte ∈ zwT ∧ Cond.arrayClass .boolean ∈ zwT := ⟨zmem_wT (zhas_mem (by decide +kernel)) rfl, zmem_wT (zhas_mem (by decide +kernel)) rfl, zmem_wT (zhas_mem (by decide +kernel)) rfl, zmem_wT (zhas_mem (by decide +kernel)) rfl⟩
theorem zgd_tl {v : Value} {st' : List Value} (h : zgd9 S.length L (v :: st') R) : zgd9 S.length L st' R := ⟨h.1, fun w hw => h.2.1 w (List.mem_cons_of_mem _ hw), h.2.2⟩
theorem znewa_row {ty : ArrayType} (hF : zFx j p s m args meth c D cA sp A) (hck : zck (zM j).2.1 (zR j) i pc raw len (.newarray ty) = true) (hdec : len ≠ 0 → decode (zY j).2.1 pc = .ok (raw, len)) (hg : zgd9 S.length L st R)
    (hs : zst (.newarray ty) L st S R mi ml = some q) (hcap : cells + q.2.2.1.length ≤ Rm.cells + S.length ∧ slots + zsl q.2.2.1 ≤ Rm.slots + zsl S) (hrel : zRel D cA sp ad A s S R mi ml H locs L ls)
    (kk : zKK p l e Rm s m args below meth c cells slots Q D cA sp ad A j i S q) : W p l e Rm s m args below meth c H locs cells slots Q (F0 m pc ls (st.map (zvv ad sp))) := by
  obtain ⟨hx, hb, -, hr, ho, hts, hlocks, hnm, hK, hA, hE⟩ := id hF
  obtain ⟨rfl, rfl, hn⟩ := zsame_spec (C := zR j) (i := i) (pc := pc) (len := len) (raw := raw) (J := .newarray ty) (n := 2) hck
  have key : ∀ ci, znewa ci L st S R mi ml = some q → ∃ n st', st = .int n :: st' ∧ ¬ n < 0 ∧ n.toNatClampNeg ≤ 100000 ∧ q = (L, .ref S.length :: st', S ++ [(ci, n.toNatClampNeg)], zw0 R S.length 0, zw0 mi S.length 0, zw0 ml S.length 0) ∧ cells + 1 ≤ Rm.cells ∧ slots + n.toNatClampNeg ≤ Rm.slots := by
    intro ci h
    obtain ⟨n, st', h1, h2, h3, h4⟩ := znewa_inv h
    rw [h4] at hcap
    simp only [List.length_append, zsl_app, List.length_cons, List.length_nil] at hcap
    simp [zsl] at hcap
    exact ⟨n, st', h1, h2, h3, h4, by omega, by omega⟩
  cases ty
  case int =>
    obtain ⟨n, st', rfl, h1, h2, hq, h3, h4⟩ := key 100 hs
    refine va_newa (atype := .int) (ty := .int) (a0 := (n.toNatClampNeg, .inl (fun _ => 0))) hx hb (hts _ z_arr.1) rfl hK hrel.1 hrel.2.1 hrel.2.2.1 hA (fun _ => rfl) h1 rfl (by show _ * 4 ≤ _; omega) h3 h4 (hdec (by decide)) (fun q0 cB H1 hK1 a1 a2 a3 => ?_)
    have := zRA_eq (k := 0) hK1 rfl
    subst this
    exact zmore kk hn (zgd_tl hg) hrel.2.2.2 hq (by unfold zce; simp only [zw9_at] <;> rfl) a1 a2 a3
  case long =>
    obtain ⟨n, st', rfl, h1, h2, hq, h3, h4⟩ := key 101 hs
    refine va_newa (atype := .long) (ty := .long) (a0 := (n.toNatClampNeg, .inr (.inl (fun _ => 0)))) hx hb (hts _ z_arr.2.1) rfl hK hrel.1 hrel.2.1 hrel.2.2.1 hA (fun _ => rfl) h1 rfl (by show _ * 8 ≤ _; omega) h3 h4 (hdec (by decide)) (fun q0 cB H1 hK1 a1 a2 a3 => ?_)
    have := zRA_eq (k := 1) hK1 rfl
    subst this
    exact zmore kk hn (zgd_tl hg) hrel.2.2.2 hq (by unfold zce; simp only [zw9_at] <;> rfl) a1 a2 a3
  case byte =>
    obtain ⟨n, st', rfl, h1, h2, hq, h3, h4⟩ := key 102 hs
    refine va_newa (atype := .byte) (ty := .byte) (a0 := (n.toNatClampNeg, .inl (fun _ => 0))) hx hb (hts _ z_arr.2.2.1) rfl hK hrel.1 hrel.2.1 hrel.2.2.1 hA (fun _ => rfl) h1 rfl (by show _ * 1 ≤ _; omega) h3 h4 (hdec (by decide)) (fun q0 cB H1 hK1 a1 a2 a3 => ?_)
    have := zRA_eq (k := 2) hK1 rfl
    subst this
    exact zmore kk hn (zgd_tl hg) hrel.2.2.2 hq (by unfold zce; simp only [zw9_at] <;> rfl) a1 a2 a3
  case boolean =>
    obtain ⟨n, st', rfl, h1, h2, hq, h3, h4⟩ := key 103 hs
    refine va_newa (atype := .boolean) (ty := .boolean) (a0 := (n.toNatClampNeg, .inl (fun _ => 0))) hx hb (hts _ z_arr.2.2.2) rfl hK hrel.1 hrel.2.1 hrel.2.2.1 hA (fun _ => rfl) h1 rfl (by show _ * 1 ≤ _; omega) h3 h4 (hdec (by decide)) (fun q0 cB H1 hK1 a1 a2 a3 => ?_)
    have := zRA_eq (k := 3) hK1 rfl
    subst this
    exact zmore kk hn (zgd_tl hg) hrel.2.2.2 hq (by unfold zce; simp only [zw9_at] <;> rfl) a1 a2 a3
  all_goals cases hs
theorem zanew_row {ci : Nat} (hF : zFx j p s m args meth c D cA sp A) (hck : zck (zM j).2.1 (zR j) i pc raw len (.anewarray ci) = true) (hdec : len ≠ 0 → decode (zY j).2.1 pc = .ok (raw, len)) (hown : zOwn (zM j).2.1 = (zY j).1.cls) (hg : zgd9 S.length L st R)
    (hs : zst (.anewarray ci) L st S R mi ml = some q) (hcap : cells + q.2.2.1.length ≤ Rm.cells + S.length ∧ slots + zsl q.2.2.1 ≤ Rm.slots + zsl S) (hrel : zRel D cA sp ad A s S R mi ml H locs L ls)
    (kk : zKK p l e Rm s m args below meth c cells slots Q D cA sp ad A j i S q) : W p l e Rm s m args below meth c H locs cells slots Q (F0 m pc ls (st.map (zvv ad sp))) := by
  obtain ⟨hx, hb, -, hr, ho, hts, hlocks, hnm, hK, hA, hE⟩ := id hF
  cases raw <;> simp only [zck, Bool.and_eq_true, beq_iff_eq, Bool.false_eq_true, Bool.or_eq_true] at hck
  obtain ⟨⟨h0, rfl⟩, hn⟩ := hck
  simp only [zst] at hs
  split at hs
  · obtain ⟨n, st', rfl, h1, h2, hq⟩ := znewa_inv hs
    have hc1 : cells + 1 ≤ Rm.cells ∧ slots + n.toNatClampNeg ≤ Rm.slots := by
      rw [hq] at hcap
      simp only [List.length_append, zsl_app, List.length_cons, List.length_nil] at hcap
      simp [zsl] at hcap
      omega
    have hfn : (fun k => zrf (zad1 ad S.length 0) (zw0 R S.length 0 S.length k)) = fun _ => none := by
      funext k; rw [zw9_at]; rfl
    rcases h0 with (⟨rfl, h0⟩ | ⟨rfl, h0⟩) | ⟨rfl, h0⟩
    · refine va_newq (C := "OnlyStrangers$Scene") hx hb (by rw [hown]; exact ho) (zhas_tab hts h0 rfl) hE.1.2.1 hK hrel.1 hrel.2.1 hrel.2.2.1 hA h1 rfl (by omega) hc1.1 hc1.2 (hdec (by decide)) (fun q0 cB H1 hK1 a1 a2 a3 => ?_)
      have := zRA_eq (k := 4) hK1 rfl
      subst this
      exact zmore kk hn (zgd_tl hg) hrel.2.2.2 hq (by unfold zce; simp only [zw9_at] <;> rfl) a1 a2 a3
    · refine va_newq (C := "OnlyStrangers$Parish") hx hb (by rw [hown]; exact ho) (zhas_tab hts h0 rfl) hE.1.2.2.1 hK hrel.1 hrel.2.1 hrel.2.2.1 hA h1 rfl (by omega) hc1.1 hc1.2 (hdec (by decide)) (fun q0 cB H1 hK1 a1 a2 a3 => ?_)
      have := zRA_eq (k := 5) hK1 rfl
      subst this
      exact zmore kk hn (zgd_tl hg) hrel.2.2.2 hq (by unfold zce; simp only [zw9_at] <;> rfl) a1 a2 a3
    · refine va_newq (C := "OnlyStrangers$Plan") hx hb (by rw [hown]; exact ho) (zhas_tab hts h0 rfl) hE.1.2.2.2.1 hK hrel.1 hrel.2.1 hrel.2.2.1 hA h1 rfl (by omega) hc1.1 hc1.2 (hdec (by decide)) (fun q0 cB H1 hK1 a1 a2 a3 => ?_)
      have := zRA_eq (k := 6) hK1 rfl
      subst this
      exact zmore kk hn (zgd_tl hg) hrel.2.2.2 hq (by unfold zce; simp only [zw9_at] <;> rfl) a1 a2 a3
  · cases hs
end STEP
