-- @after: 00.privs 01.names 02.code 03.tabs 04.mach 05.rows 06.facts 07.check 09.world 10.inrange 11.step 12.step2
/-! fields -/
theorem zuT {ci : Nat} {C : String} {T : u_T} {N : Nat} (h : zcl[ci]? = some (C, T, N)) : (∀ w ∈ u_ws C T N, w ∈ zwT) ∧ (∀ a, a < N → ∀ b, b < N → a ≠ b → (T a).2.1 ≠ (T b).2.1) ∧ (∀ k, k < N → parseFieldDescriptor (T k).2.2.1 = some (zyy ci k)) ∧ C = zOwn ci := by
  have go : ∀ w ∈ u_ws C T N, w ∈ lw_tbl → w ∈ zwT := by
    intro w hw hm
    obtain ⟨k, -, rfl⟩ := List.mem_map.mp hw
    refine zmem_wT hm ?_
    unfold u_lay
    split <;> rfl
  match ci, h with
  | 0, h => cases h; exact ⟨fun w hw => go w hw (zu0 w hw), zn0, zy0_ok, rfl⟩
  | 1, h => cases h; exact ⟨fun w hw => go w hw (zu1 w hw), zn1, zy1_ok, rfl⟩
  | 2, h => cases h; exact ⟨fun w hw => go w hw (zu2 w hw), zn2, zy2_ok, rfl⟩
  | 3, h => cases h; exact ⟨fun w hw => go w hw (zu3 w hw), zn3, zy3_ok, rfl⟩
  | 4, h => cases h; exact ⟨fun w hw => go w hw (zu4 w hw), zn4, zy4_ok, rfl⟩
  | 5, h => cases h; exact ⟨fun w hw => go w hw (zu5 w hw), zn5, zy5_ok, rfl⟩
  | 6, h => cases h; exact ⟨fun w hw => go w hw (zu6 w hw), zn6, zy6_ok, rfl⟩
  | 7, h => cases h; exact ⟨fun w hw => go w hw (zu7 w hw), zn7, zy7_ok, rfl⟩
  | 8, h => cases h; exact ⟨fun w hw => go w hw (zu8 w hw), zn8, zy8_ok, rfl⟩
  | 9, h => cases h; exact ⟨fun w hw => go w hw (zu9 w hw), zn9, zy9_ok, rfl⟩
  | 10, h => cases h; exact ⟨fun w hw => go w hw (zu10 w hw), zn10, zy10_ok, rfl⟩
  | 11, h => cases h; exact ⟨fun w hw => go w hw (zu11 w hw), zn11, zy11_ok, rfl⟩
  | 12, h => cases h; exact ⟨fun w hw => go w hw (zu12 w hw), zn12, zy12_ok, rfl⟩
  | n + 13, h => simp at h
theorem zcl_lt {ci : Nat} {q : vw_C} (h : zcl[ci]? = some q) : ci < 13 := (List.getElem?_eq_some_iff.mp h).1
theorem zce_obj {ad cA : Nat → Nat} {R : zR0} {mi : zI} {ml : zJ} {c ci n : Nat} (h : ci < 13) : zce ad cA R mi ml c (ci, n) = .inr (ci, (List.range n).map (fun k => zsv9 ad R mi ml c k (zyy ci k))) := by
  unfold zce
  dsimp only
  split <;> first | rfl | omega
/-- what a field's row says of a receiver's class -/
theorem zfc_spec {f ci : Nat} (h : zfc f ci = true) : ∃ C T N, zcl[ci]? = some (C, T, N) ∧ (zF f).2.1 < N ∧ (T (zF f).2.1).2.1 = (zFI f).2.2.2.1 ∧ (T (zF f).2.1).2.2.1 = (zFI f).2.2.2.2.1 ∧ zft (zFI f).2.2.2.2.1 = (zF f).2.2 ∧
    ((T (zF f).2.1).1 = (zFI f).2.2.1 ∨ zHas (.sameField (zFI f).2.2.1 (T (zF f).2.1).1 (zFI f).2.2.2.1 (zFI f).2.2.2.2.1) = true) ∧ ((zFI f).2.2.2.2.1 = "I" ∨ (zFI f).2.2.2.2.1 = "J" ∨ (zFI f).2.2.2.2.1 = "Z" ∨ (∃ t, parseFieldDescriptor (zFI f).2.2.2.2.1 = some (.object t)) ∨ ∃ t, parseFieldDescriptor (zFI f).2.2.2.2.1 = some (.array t)) := by
  unfold zfc at h
  cases hc : zcl[ci]? with
  | none => simp [hc] at h
  | some q =>
    obtain ⟨C, T, N⟩ := q
    rw [hc] at h
    generalize hz : zFI f = z at h ⊢
    obtain ⟨o, ix, ref, name, desc, host, pl⟩ := z
    simp only [Bool.and_eq_true, decide_eq_true_eq, beq_iff_eq, Bool.or_eq_true] at h
    obtain ⟨⟨⟨⟨⟨h1, h2⟩, h3⟩, h4⟩, h5⟩, h6⟩ := h
    refine ⟨C, T, N, rfl, h1, h2, h3, h4, h5, ?_⟩
    rcases h6 with ((h6 | h6) | h6) | h6
    · exact Or.inl h6
    · exact Or.inr (Or.inl h6)
    · exact Or.inr (Or.inr (Or.inl h6))
    · split at h6
      · rename_i t ht; exact Or.inr (Or.inr (Or.inr (Or.inl ⟨t, ht⟩)))
      · rename_i t ht; exact Or.inr (Or.inr (Or.inr (Or.inr ⟨t, ht⟩)))
      · cases h6
theorem zft_ty {d : String} {ty : FieldType} (hp : parseFieldDescriptor d = some ty) (hd : d = "I" ∨ d = "J" ∨ d = "Z" ∨ (∃ t, parseFieldDescriptor d = some (.object t)) ∨ ∃ t, parseFieldDescriptor d = some (.array t)) :
    (zft d = 0 → ty = .int) ∧ (zft d = 1 → ty = .long) ∧ (zft d = 3 → ty = .boolean) ∧ (zft d = 2 → (∃ t, ty = .object t) ∨ ∃ t, ty = .array t) := by
  have hI : parseFieldDescriptor "I" = some .int := by decide +kernel
  have hJ : parseFieldDescriptor "J" = some .long := by decide +kernel
  have hZ : parseFieldDescriptor "Z" = some .boolean := by decide +kernel
  rcases hd with rfl | rfl | rfl | hd | hd
  · rw [hI] at hp; cases hp; exact ⟨fun _ => rfl, fun h => by simp [zft] at h, fun h => by simp [zft] at h, fun h => by simp [zft] at h⟩
  · rw [hJ] at hp; cases hp; exact ⟨fun h => by simp [zft] at h, fun _ => rfl, fun h => by simp [zft] at h, fun h => by simp [zft] at h⟩
  · rw [hZ] at hp; cases hp; exact ⟨fun h => by simp [zft] at h, fun h => by simp [zft] at h, fun _ => rfl, fun h => by simp [zft] at h⟩
  · obtain ⟨t, ht⟩ := hd
    have n1 : d ≠ "I" := fun z => by rw [z, hI] at ht; cases ht
    have n2 : d ≠ "J" := fun z => by rw [z, hJ] at ht; cases ht
    have n3 : d ≠ "Z" := fun z => by rw [z, hZ] at ht; cases ht
    rw [ht] at hp; cases hp
    exact ⟨fun h => by simp [zft, n1, n2, n3] at h, fun h => by simp [zft, n1, n2, n3] at h, fun h => by simp [zft, n1, n2, n3] at h, fun _ => Or.inl ⟨t, rfl⟩⟩
  · obtain ⟨t, ht⟩ := hd
    have n1 : d ≠ "I" := fun z => by rw [z, hI] at ht; cases ht
    have n2 : d ≠ "J" := fun z => by rw [z, hJ] at ht; cases ht
    have n3 : d ≠ "Z" := fun z => by rw [z, hZ] at ht; cases ht
    rw [ht] at hp; cases hp
    exact ⟨fun h => by simp [zft, n1, n2, n3] at h, fun h => by simp [zft, n1, n2, n3] at h, fun h => by simp [zft, n1, n2, n3] at h, fun _ => Or.inr ⟨t, rfl⟩⟩
theorem zchf_cls {f ci : Nat} (h : zchf f = true) (hc : (zF f).1.contains ci = true) (h5 : (zF f).2.2 ≠ 5) : zfc f ci = true := by
  unfold zchf at h
  rw [Bool.and_eq_true, if_neg h5] at h
  exact List.all_eq_true.mp h.2 ci (by simpa using hc)
theorem zfld_ty {f ci : Nat} (h : zfc f ci = true) : ((zF f).2.2 = 0 → zyy ci (zF f).2.1 = .int) ∧ ((zF f).2.2 = 1 → zyy ci (zF f).2.1 = .long) ∧ ((zF f).2.2 = 3 → zyy ci (zF f).2.1 = .boolean) ∧ ((zF f).2.2 = 2 → (∃ t, zyy ci (zF f).2.1 = .object t) ∨ ∃ t, zyy ci (zF f).2.1 = .array t) := by
  obtain ⟨C, T, N, hcl, hkN, e1, e2, e3, e4, e5⟩ := zfc_spec h
  have hp := (zuT hcl).2.2.1 _ hkN
  rw [e2] at hp
  have := zft_ty hp e5
  rw [e3] at this
  exact this
theorem zchf_word {f : Nat} (h : zchf f = true) : zfw f ∈ lw_tbl := by
  unfold zchf at h
  rw [Bool.and_eq_true] at h
  exact zAt_mem h.1
section STEP
variable {p : Program} {l : Launch} {e : Env} {Rm : Room} {s : State} {m : MethodId} {args : Array Value} {below : List Frame} {meth : Method} {c : Code} {H : Heap} {locs : List Loc} {cells slots : Nat} {Q : State → Prop}
variable {D : va_G} {cA sp ad : Nat → Nat} {A : Nat → Prop} {j i pc len : Nat} {raw I : Instr} {L st L1 st1 : List Value} {S S1 : zS} {R R1 : zR0} {mi mi1 : zI} {ml ml1 : zJ} {ls : Array Slot} {q : zT}
theorem zsame_fd {args : Array Value} {s : State} {T0 ref name desc : String} (hts : ∀ w ∈ zwT, w.before args s = true) (h : T0 = ref ∨ zHas (.sameField ref T0 name desc) = true) : ∀ x, s.fieldFound? T0 name desc = some x → s.fieldFound? ref name desc = some x := by
  rcases h with rfl | h
  · exact fun _ h => h
  · exact fun x hx => u_same (zhas_tab hts h rfl) x hx
/-- getfield of an object's own -/
theorem zgetf {f cc ci n : Nat} {v : Value} {rest : List Value} (hF : zFx j p s m args meth c D cA sp A) (hfi : (zFI f).1 = (zM j).2.1) (hown : zOwn (zM j).2.1 = (zY j).1.cls) (hchf : zchf f = true) (hd : decode (zY j).2.1 pc = .ok (.getfield (zFI f).2.1, 3)) (hrel : zRel D cA sp ad A s S R mi ml H locs L ls)
    (hS : S[cc]? = some (ci, n)) (hc : (zF f).1.contains ci = true) (hk : (zF f).2.1 < n) (h5 : (zF f).2.2 ≠ 5) (hv : zsv9 ad R mi ml cc (zF f).2.1 (zyy ci (zF f).2.1) = v)
    (kk : W p l e Rm s m args below meth c H locs cells slots Q (F0 m (pc + 3) ls (v :: rest))) : W p l e Rm s m args below meth c H locs cells slots Q (F0 m pc ls (.ref (ad cc) :: rest)) := by
  obtain ⟨hx, hb, -, hr, ho, hts, hlocks, hnm, hK, hA, hE⟩ := id hF
  obtain ⟨C, T, N, hcl, hkN, e1, e2, e3, e4, e5⟩ := zfc_spec (zchf_cls hchf hc h5)
  have hlt := zcl_lt hcl
  have hws := zws_at (ad := ad) (cA := cA) (R := R) (mi := mi) (ml := ml) hS
  rw [zce_obj hlt] at hws
  have hfs : ((List.range n).map (fun k => zsv9 ad R mi ml cc k (zyy ci k)))[(zF f).2.1]? = some v := by
    rw [List.getElem?_map, List.getElem?_range hk, Option.map_some, hv]
  have hw := zchf_word hchf
  have hown' : s.vm.findClass (zOwn (zFI f).1) = some m.cls := by rw [hfi, hown]; exact ho
  have hsm := zsame_fd hts e4
  unfold zfw at hw
  split at hw
  · exact va_get hx hb hts (zuT hcl).1 hown' hK hrel.1 cc hws hcl (zF f).2.1 hkN (by rw [e1, e2]; exact hts _ (zmem_wT hw rfl)) (by rw [e1, e2]; exact hsm) hfs hd kk
  · exact va_getN hx hb hts (zuT hcl).1 hown' hK hrel.1 cc hws hcl (zF f).2.1 hkN (by rw [e1, e2]; exact (hE.1.1 _ (zmem_wN hw rfl)).use rfl) (by rw [e1, e2]; exact hsm) hfs hd kk
theorem zupd_fs {n k : Nat} {g g' : Nat → Value} {v : Value} (h1 : g' k = v) (h2 : ∀ i, i ≠ k → g' i = g i) : (List.range n).map g' = ((List.range n).map g).set k v := by
  apply List.ext_getElem?
  intro i
  rw [List.getElem?_set]
  by_cases hi : k = i
  · subst hi
    rw [if_pos rfl]
    by_cases hn : k < n
    · rw [List.getElem?_map, List.getElem?_range hn, if_pos (by simpa using hn)]; simp [h1]
    · rw [if_neg (by simpa using hn)]
      simp [hn]
  · rw [if_neg hi, List.getElem?_map, List.getElem?_map]
    by_cases hn : i < n
    · rw [List.getElem?_range hn]; simp [h2 i (fun z => hi z.symm)]
    · simp [hn]
/-- putfield of an object's own -/
theorem zputf {f cc ci n : Nat} {v : Value} {rest : List Value} {R' : zR0} {mi' : zI} {ml' : zJ} (hF : zFx j p s m args meth c D cA sp A) (hfi : (zFI f).1 = (zM j).2.1) (hown : zOwn (zM j).2.1 = (zY j).1.cls) (hchf : zchf f = true) (hd : decode (zY j).2.1 pc = .ok (.putfield (zFI f).2.1, 3)) (hrel : zRel D cA sp ad A s S R mi ml H locs L ls)
    (hS : S[cc]? = some (ci, n)) (hc : (zF f).1.contains ci = true) (hk : (zF f).2.1 < n) (h5 : (zF f).2.2 ≠ 5) (hv : zsv9 ad R' mi' ml' cc (zF f).2.1 (zyy ci (zF f).2.1) = v)
    (ho1 : ∀ i, i ≠ (zF f).2.1 → zsv9 ad R' mi' ml' cc i (zyy ci i) = zsv9 ad R mi ml cc i (zyy ci i)) (ho2 : ∀ c' q', c' ≠ cc → zce ad cA R' mi' ml' c' q' = zce ad cA R mi ml c' q')
    (hnar : narrow (zyy ci (zF f).2.1) v = v) (hfit : fits (zyy ci (zF f).2.1) v = true)
    (hfin : ∀ C T N, zcl[ci]? = some (C, T, N) → (T (zF f).2.1).2.2.2 = false ∨ (zFI f).2.2.2.2.2.1 = "" ∧ (zY j).1.name = "<init>" ∧ (T (zF f).2.1).1 = zOwn (zFI f).1)
    (kk : ∀ (H1 : Heap) (locs1 : List Loc), zRel D cA sp ad A s S R' mi' ml' H1 locs1 L ls → W p l e Rm s m args below meth c H1 locs1 cells slots Q (F0 m (pc + 3) ls rest)) : W p l e Rm s m args below meth c H locs cells slots Q (F0 m pc ls (v :: .ref (ad cc) :: rest)) := by
  obtain ⟨hx, hb, -, hr, ho, hts, hlocks, hnm, hK, hA, hE⟩ := id hF
  have hzf := zchf_cls hchf hc h5
  obtain ⟨C, T, N, hcl, hkN, e1, e2, e3, e4, e5⟩ := zfc_spec hzf
  have hlt := zcl_lt hcl
  have hws := zws_at (ad := ad) (cA := cA) (R := R) (mi := mi) (ml := ml) hS
  rw [zce_obj hlt] at hws
  have hw := zchf_word hchf
  have hown' : s.vm.findClass (zOwn (zFI f).1) = some m.cls := by rw [hfi, hown]; exact ho
  have hsm := zsame_fd hts e4
  have hp := (zuT hcl).2.2.1 _ hkN
  have hset : zws ad cA S R' mi' ml' = (zws ad cA S R mi ml).set cc (ad cc, .inr (ci, ((List.range n).map (fun k => zsv9 ad R mi ml cc k (zyy ci k))).set (zF f).2.1 v)) := by
    refine zws_upd hS ?_ ho2
    rw [zce_obj hlt]
    rw [zupd_fs (g' := fun k => zsv9 ad R' mi' ml' cc k (zyy ci k)) hv ho1]
  have kk' : ∀ (H1 : Heap) (locs1 : List Loc), va_P D zcl ((zws ad cA S R mi ml).set cc (ad cc, .inr (ci, ((List.range n).map (fun k => zsv9 ad R mi ml cc k (zyy ci k))).set (zF f).2.1 v))) H1 → va_D A ((zws ad cA S R mi ml).set cc (ad cc, .inr (ci, ((List.range n).map (fun k => zsv9 ad R mi ml cc k (zyy ci k))).set (zF f).2.1 v))) → va_S A s.heap H1 locs1 → W p l e Rm s m args below meth c H1 locs1 cells slots Q (F0 m (pc + 3) ls rest) := by
    intro H1 locs1 a1 a2 a3
    rw [← hset] at a1 a2
    exact kk H1 locs1 ⟨a1, a2, a3, hrel.2.2.2⟩
  have hlen : (zF f).2.1 < ((List.range n).map (fun k => zsv9 ad R mi ml cc k (zyy ci k))).length := by simpa using hk
  unfold zfw at hw
  rcases hfin C T N hcl with hfin | ⟨hh, hinit, hdecl⟩
  · split at hw
    · exact va_put hx hb hts (zuT hcl).1 (zyy ci) (zuT hcl).2.2.1 (zuT hcl).2.1 hown' hK hrel.1 hrel.2.1 hrel.2.2.1 cc hws hcl (zF f).2.1 hkN (by rw [e1, e2]; exact hts _ (zmem_wT hw rfl)) (by rw [e1, e2]; exact hsm) hfin hp hnar hfit hlen hd kk'
    · exact va_putN hx hb hts (zuT hcl).1 (zyy ci) (zuT hcl).2.2.1 (zuT hcl).2.1 hown' hK hrel.1 hrel.2.1 hrel.2.2.1 cc hws hcl (zF f).2.1 hkN (by rw [e1, e2]; exact (hE.1.1 _ (zmem_wN hw rfl)).use rfl) (by rw [e1, e2]; exact hsm) hfin hp hnar hfit hlen hd kk'
  · rw [if_pos hh] at hw
    by_cases hfn : (T (zF f).2.1).2.2.2 = false
    · exact va_put hx hb hts (zuT hcl).1 (zyy ci) (zuT hcl).2.2.1 (zuT hcl).2.1 hown' hK hrel.1 hrel.2.1 hrel.2.2.1 cc hws hcl (zF f).2.1 hkN (by rw [e1, e2]; exact hts _ (zmem_wT hw rfl)) (by rw [e1, e2]; exact hsm) hfn hp hnar hfit hlen hd kk'
    · exact va_putF hx hb hts (zuT hcl).1 (zyy ci) (zuT hcl).2.2.1 (zuT hcl).2.1 hown' hK hrel.1 hrel.2.1 hrel.2.2.1 cc hws hcl (zF f).2.1 hkN (by rw [e1, e2]; exact hts _ (zmem_wT hw rfl)) (by rw [e1, e2]; exact hsm) (by simpa using hfn) (hnm.trans hinit) hdecl hp hnar hfit hlen hd kk'
theorem zfin_spec {f : Nat} {ini : Bool} {ci : Nat} (h : zfin_ f ini = true) (hc : (zF f).1.contains ci = true) : ∀ C T N, zcl[ci]? = some (C, T, N) → (T (zF f).2.1).2.2.2 = false ∨ (zFI f).2.2.2.2.2.1 = "" ∧ ini = true ∧ (T (zF f).2.1).1 = zOwn (zFI f).1 := by
  intro C T N hcl
  have h1 := List.all_eq_true.mp h ci (by simpa using hc)
  rw [hcl] at h1
  simp only [Bool.or_eq_true, Bool.not_eq_true', Bool.and_eq_true, decide_eq_true_eq] at h1
  rcases h1 with h1 | ⟨⟨h1, h2⟩, h3⟩
  · exact Or.inl h1
  · exact Or.inr ⟨h2, h1, h3⟩
theorem zsim_get {f : Nat} (hF : zFx j p s m args meth c D cA sp A) (hck : zck (zM j).2.1 (zR j) i pc raw len (.getfield f) = true) (hdec : len ≠ 0 → decode (zY j).2.1 pc = .ok (raw, len)) (hown : zOwn (zM j).2.1 = (zY j).1.cls) (hchf : ∀ f, f < 153 → zchf f = true)
    (hs : zst (.getfield f) L st S R mi ml = some q) (hrel : zRel D cA sp ad A s S R mi ml H locs L ls)
    (kk : zKK p l e Rm s m args below meth c cells slots Q D cA sp ad A j i S q) : W p l e Rm s m args below meth c H locs cells slots Q (F0 m pc ls (st.map (zvv ad sp))) := by
  simp only [zck, Bool.and_eq_true, beq_iff_eq, decide_eq_true_eq] at hck
  obtain ⟨⟨h1, hfi⟩, hlt⟩ := hck
  obtain ⟨rfl, rfl, hn⟩ := zsame_spec h1
  have hch := hchf f hlt
  have hd := hdec (by decide)
  simp only [zst] at hs
  unfold zget at hs
  split at hs
  · rename_i cc st'
    split at hs
    · rename_i ci n hS
      split at hs
      · rename_i hg
        have go : ∀ v, (zF f).2.2 ≠ 5 → zsv9 ad R mi ml cc (zF f).2.1 (zyy ci (zF f).2.1) = zvv ad sp v → q = (L, v :: st', S, R, mi, ml) → W p l e Rm s m args below meth c H locs cells slots Q (F0 m pc ls ((.ref cc :: st').map (zvv ad sp))) := fun v h5 hv hq =>
          zgetf hF hfi hown hch hd hrel hS hg.1 hg.2 h5 hv (kk.same hrel hq hn)
        split at hs
        · rename_i h0
          have h5 : (zF f).2.2 ≠ 5 := by rw [h0]; decide
          exact go _ h5 (by rw [(zfld_ty (zchf_cls hch hg.1 h5)).1 h0]; rfl) (Option.some.inj hs).symm
        · rename_i h0
          have h5 : (zF f).2.2 ≠ 5 := by rw [h0]; decide
          exact go _ h5 (by rw [(zfld_ty (zchf_cls hch hg.1 h5)).2.2.1 h0]; rfl) (Option.some.inj hs).symm
        · rename_i h0
          have h5 : (zF f).2.2 ≠ 5 := by rw [h0]; decide
          exact go _ h5 (by rw [(zfld_ty (zchf_cls hch hg.1 h5)).2.1 h0]; rfl) (Option.some.inj hs).symm
        · rename_i h0
          have h5 : (zF f).2.2 ≠ 5 := by rw [h0]; decide
          refine go _ h5 ?_ (Option.some.inj hs).symm
          rw [zvv_zrv]
          rcases (zfld_ty (zchf_cls hch hg.1 h5)).2.2.2 h0 with ⟨t, ht⟩ | ⟨t, ht⟩ <;> rw [ht] <;> rfl
        · cases hs
      · cases hs
    · cases hs
  · rename_i n st'
    split at hs
    · rename_i hg
      obtain ⟨hx, hb, -, hr, ho, hts, hlocks, hnm, hK, hA, hE⟩ := id hF
      have hw := zchf_word hch
      unfold zchf at hch
      rw [Bool.and_eq_true, if_pos hg.2.2] at hch
      have hown' : s.vm.findClass (zOwn (zFI f).1) = some m.cls := by rw [hfi, hown]; exact ho
      simp only [Bool.or_eq_true, Bool.and_eq_true, decide_eq_true_eq, beq_iff_eq] at hch
      obtain ⟨k, hk, rfl⟩ : ∃ k, k < 7 ∧ n = 10 + k := ⟨n - 10, by omega, by omega⟩
      obtain ⟨-, b2, b3, -⟩ := hE.2.2.2.2.2.1 k hk
      unfold zfw at hw
      rw [zsq_map (by omega)]
      rcases hch.2 with ⟨⟨h2, h3⟩, -⟩ | ⟨⟨h2, h3⟩, -⟩
      · rw [h3] at hs
        rw [h2] at hown' hw hd
        exact vk_getf hx hb b3 hrel.2.2.1 hown' (hts _ (zmem_wT hw rfl)) (fun _ h => h) hd (by
          have := kk.same hrel (Option.some.inj hs).symm hn
          rw [show (10 + k + 10) = 20 + k by omega, zsq_map (by omega)] at this
          exact this)
      · rw [h3] at hs
        rw [h2] at hown' hw hd
        exact vk_getf hx hb b2 hrel.2.2.1 hown' (hts _ (zmem_wT hw rfl)) (fun _ h => h) hd (kk.same hrel (Option.some.inj hs).symm hn)
    · cases hs
  · cases hs
theorem zsim_put {f : Nat} (hF : zFx j p s m args meth c D cA sp A) (hck : zck (zM j).2.1 (zR j) i pc raw len (.putfield f) = true) (hfn : zfin_ f (decide ((zY j).1.name = "<init>")) = true) (hdec : len ≠ 0 → decode (zY j).2.1 pc = .ok (raw, len)) (hown : zOwn (zM j).2.1 = (zY j).1.cls) (hchf : ∀ f, f < 153 → zchf f = true)
    (hs : zst (.putfield f) L st S R mi ml = some q) (hrel : zRel D cA sp ad A s S R mi ml H locs L ls)
    (kk : zKK p l e Rm s m args below meth c cells slots Q D cA sp ad A j i S q) : W p l e Rm s m args below meth c H locs cells slots Q (F0 m pc ls (st.map (zvv ad sp))) := by
  simp only [zck, Bool.and_eq_true, beq_iff_eq, decide_eq_true_eq] at hck
  obtain ⟨⟨h1, hfi⟩, hlt⟩ := hck
  obtain ⟨rfl, rfl, hn⟩ := zsame_spec h1
  have hch := hchf f hlt
  have hd := hdec (by decide)
  simp only [zst] at hs
  unfold zput at hs
  split at hs
  · rename_i v cc st'
    split at hs
    · rename_i ci n hS
      split at hs
      · rename_i hg
        have hfin : ∀ C T N, zcl[ci]? = some (C, T, N) → (T (zF f).2.1).2.2.2 = false ∨ (zFI f).2.2.2.2.2.1 = "" ∧ (zY j).1.name = "<init>" ∧ (T (zF f).2.1).1 = zOwn (zFI f).1 := by
          intro C T N hcl
          rcases zfin_spec hfn hg.1 C T N hcl with z | ⟨z1, z2, z3⟩
          · exact Or.inl z
          · exact Or.inr ⟨z1, of_decide_eq_true z2, z3⟩
        have go : ∀ (R' : zR0) (mi' : zI) (ml' : zJ), (zF f).2.2 ≠ 5 → zsv9 ad R' mi' ml' cc (zF f).2.1 (zyy ci (zF f).2.1) = zvv ad sp v → (∀ i, i ≠ (zF f).2.1 → zsv9 ad R' mi' ml' cc i (zyy ci i) = zsv9 ad R mi ml cc i (zyy ci i)) → (∀ c' q', c' ≠ cc → zce ad cA R' mi' ml' c' q' = zce ad cA R mi ml c' q') →
            narrow (zyy ci (zF f).2.1) (zvv ad sp v) = zvv ad sp v → fits (zyy ci (zF f).2.1) (zvv ad sp v) = true → q = (L, st', S, R', mi', ml') → W p l e Rm s m args below meth c H locs cells slots Q (F0 m pc ls ((v :: .ref cc :: st').map (zvv ad sp))) := by
          intro R' mi' ml' h5 hv ho1 ho2 hnar hfit hq
          exact zputf hF hfi hown hch hd hrel hS hg.1 hg.2 h5 hv ho1 ho2 hnar hfit hfin (fun H1 locs1 h => kk.same h hq hn)
        split at hs
        · rename_i x h0
          have h5 : (zF f).2.2 ≠ 5 := by rw [h0]; decide
          have ht := (zfld_ty (zchf_cls hch hg.1 h5)).1 h0
          refine go R (zu mi cc (zF f).2.1 x) ml h5 ?_ ?_ ?_ ?_ ?_ (Option.some.inj hs).symm
          · rw [ht]; show Value.int (zu mi cc (zF f).2.1 x cc (zF f).2.1) = _; simp [zu, zvv]
          · intro i hi; simp [zsv9, zu, hi]
          · intro c' q' hc'; exact zce_mi (zuc_ne hc')
          · rw [ht]; rfl
          · rw [ht]; rfl
        · rename_i x h0
          have h5 : (zF f).2.2 ≠ 5 := by rw [h0]; decide
          have ht := (zfld_ty (zchf_cls hch hg.1 h5)).2.2.1 h0
          split at hs
          · rename_i h01
            refine go R (zu mi cc (zF f).2.1 x) ml h5 ?_ ?_ ?_ ?_ ?_ (Option.some.inj hs).symm
            · rw [ht]; show Value.int (zu mi cc (zF f).2.1 x cc (zF f).2.1) = _; simp [zu, zvv]
            · intro i hi; simp [zsv9, zu, hi]
            · intro c' q' hc'; exact zce_mi (zuc_ne hc')
            · rw [ht]; exact z_nar_bool h01
            · rw [ht]; rcases h01 with rfl | rfl <;> rfl
          · cases hs
        · rename_i x h0
          have h5 : (zF f).2.2 ≠ 5 := by rw [h0]; decide
          have ht := (zfld_ty (zchf_cls hch hg.1 h5)).2.1 h0
          refine go R mi (zu ml cc (zF f).2.1 x) h5 ?_ ?_ ?_ ?_ ?_ (Option.some.inj hs).symm
          · rw [ht]; show Value.long (zu ml cc (zF f).2.1 x cc (zF f).2.1) = _; simp [zu, zvv]
          · intro i hi; simp [zsv9, zu, hi]
          · intro c' q' hc'; exact zce_ml (zuc_ne hc')
          · rw [ht]; rfl
          · rw [ht]; rfl
        · rename_i x h0
          have h5 : (zF f).2.2 ≠ 5 := by rw [h0]; decide
          have ht := (zfld_ty (zchf_cls hch hg.1 h5)).2.2.2 h0
          refine go (zu R cc (zF f).2.1 (x + 1)) mi ml h5 ?_ ?_ ?_ ?_ ?_ (Option.some.inj hs).symm
          · have : zrf ad (zu R cc (zF f).2.1 (x + 1) cc (zF f).2.1) = some (ad x) := by simp [zu, zrf, zrn]
            rcases ht with ⟨t, ht⟩ | ⟨t, ht⟩ <;> rw [ht] <;> simp [zsv9, this, zvv, va_rf]
          · intro i hi; simp [zsv9, zu, hi]
          · intro c' q' hc'; exact zce_R (zuc_ne hc')
          · rcases ht with ⟨t, ht⟩ | ⟨t, ht⟩ <;> rw [ht] <;> rfl
          · rcases ht with ⟨t, ht⟩ | ⟨t, ht⟩ <;> rw [ht] <;> rfl
        · cases hs
      · cases hs
    · cases hs
  · cases hs
end STEP
