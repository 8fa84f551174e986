/-! The law's calls: two memories in one heap; a call moves one of them. -/
def R_law : String := "OnlyStrangersLaw"
/-- what stays through the law -/
def lF (p : Program) (s : State) (m : MethodId) (c : Code) (b : Addr) (D : va_G) (cA sp : Nat → Nat) : Prop := p.tables.exec = Jvm.exec ∧ c.code = code ∧ c.maxLocals = 4 ∧ s.vm.findClass R_law = some m.cls ∧ (∀ w ∈ lw_tbl, w.before #[Value.ref b] s = true) ∧ va_K D zcl (ztys cA) s ∧ zEnv sp (lA s) s s.heap
/-- the two memories -/
def lM (D : va_G) (cA : Nat → Nat) (s : State) (ad : Nat → Nat) (S : zS) (R : zR0) (mi : zI) (ml : zJ) (ad' : Nat → Nat) (S' : zS) (R' : zR0) (mi' : zI) (ml' : zJ) (H : Heap) (locs : List Loc) : Prop :=
  va_P D zcl (zws ad cA S R mi ml) H ∧ va_P D zcl (zws ad' cA S' R' mi' ml') H ∧ va_D (lA s) (zws ad cA S R mi ml) ∧ va_D (lA s) (zws ad' cA S' R' mi' ml') ∧
  (∀ (i j : Nat) (p q : Nat × va_E), (zws ad cA S R mi ml)[i]? = some p → (zws ad' cA S' R' mi' ml')[j]? = some q → p.1 ≠ q.1) ∧ va_S (lA s) s.heap H locs ∧ (∀ a k, R a k ≤ S.length) ∧ ∀ a k, R' a k ≤ S'.length
theorem lM.swap {D : va_G} {cA : Nat → Nat} {s : State} {ad : Nat → Nat} {S : zS} {R : zR0} {mi : zI} {ml : zJ} {ad' : Nat → Nat} {S' : zS} {R' : zR0} {mi' : zI} {ml' : zJ} {H : Heap} {locs : List Loc} (h : lM D cA s ad S R mi ml ad' S' R' mi' ml' H locs) : lM D cA s ad' S' R' mi' ml' ad S R mi ml H locs := by
  obtain ⟨a, b, c, d, e, f, g, i⟩ := h
  exact ⟨b, a, d, c, fun i j p q h1 h2 h3 => e j i q p h2 h1 h3.symm, f, i, g⟩
section LCALL
variable {l : Launch} {p : Program} {e : Env} {s : State} {m : MethodId} {below : List Frame} {meth : Method} {c : Code} {b : Addr} {D : va_G} {cA sp : Nat → Nat} {H : Heap} {locs : List Loc} {cells slots : Nat} {Q : State → Prop}
variable {ad ad' : Nat → Nat} {S S' S1 : zS} {R R' R1 : zR0} {mi mi' mi1 : zI} {ml ml' ml1 : zJ} {ls : Array Slot} {args rest : List Value} {r : Option Value} {j idx pc f ci n : Nat}
/-- what a call needs of the heap -/
theorem l_pre {As : List Value} (F : lF p s m c b D cA sp) (M : lM D cA s ad S R mi ml ad' S' R' mi' ml' H locs) : ∀ U : State, U.heap = H → s.WarmedH U.vm → va_Pc As (zPre D cA sp ad S R mi ml H.size) As.toArray U := by
  obtain ⟨hx, hb, hml, ho, hts, hK, hE⟩ := F
  obtain ⟨m1, m2, m3, m4, m5, m6, m7, m8⟩ := M
  intro U hU hW
  refine ⟨rfl, by rw [hU], by rw [hU]; exact m1, va_K.moved hW.alike hK, m3.weaken (fun _ _ _ _ => trivial), ?_⟩
  rw [hU]
  refine ((hE.kept m6.2.1).narrow (fun q h => ?_)).warm hW
  rcases h with ⟨k, ee, h⟩ | h
  · exact m3.2 k _ h
  · exact Nat.le_trans m6.1 h
theorem l_A1 (M : lM D cA s ad S R mi ml ad' S' R' mi' ml' H locs) : ∀ q, va_A (zws ad cA S R mi ml) H.size q → lA s q := by
  obtain ⟨m1, m2, m3, m4, m5, m6, m7, m8⟩ := M
  intro q h
  rcases h with ⟨k, ee, h⟩ | h
  · exact m3.2 k _ h
  · exact Nat.le_trans m6.1 h
/-- behind a call -/
theorem l_post {ad1 : Nat → Nat} {H1 : Heap} {locs1 : List Loc} (M : lM D cA s ad S R mi ml ad' S' R' mi' ml' H locs) (c2 : va_P D zcl (zws ad1 cA S1 R1 mi1 ml1) H1) (c3 : va_D (va_A (zws ad cA S R mi ml) H.size) (zws ad1 cA S1 R1 mi1 ml1)) (c5 : ∀ q : Nat, q < H.size → ¬ va_A (zws ad cA S R mi ml) H.size q → H1[q]? = H[q]?) (c6 : va_S (lA s) s.heap H1 locs1) (c7 : ∀ a k, R1 a k ≤ S1.length) : lM D cA s ad1 S1 R1 mi1 ml1 ad' S' R' mi' ml' H1 locs1 := by
  have hA1 := l_A1 M
  obtain ⟨m1, m2, m3, m4, m5, m6, m7, m8⟩ := M
  have out : ∀ (k : Nat) (q : Nat × va_E), (zws ad' cA S' R' mi' ml')[k]? = some q → q.1 < H.size ∧ ¬ va_A (zws ad cA S R mi ml) H.size q.1 := fun k q hq => by
    have hlt := (m2 k q hq).lt
    refine ⟨hlt, fun h => ?_⟩
    rcases h with ⟨i, ee, h⟩ | h
    · exact m5 i k _ _ h hq rfl
    · exact absurd hlt (Nat.not_lt.mpr h)
  exact ⟨c2, fun k q hq => (m2 k q hq).kept (c5 _ (out k q hq).1 (out k q hq).2), c3.weaken (fun _ q _ h => hA1 q.1 h), m4, fun i j p q hp hq e => (out j q hq).2 (by rw [← e]; exact c3.2 i p hp), c6, c7, m8⟩
theorem l_map {ad sp : Nat → Nat} {args : List Value} (h : ∀ v ∈ args, (∃ x, v = .int x) ∨ ∃ x, v = .long x) : args.map (zvv ad sp) = args := by
  refine (List.map_congr_left (fun v hv => ?_)).trans (List.map_id _)
  rcases h v hv with ⟨x, rfl⟩ | ⟨x, rfl⟩ <;> rfl
/-- an answer that is no cell -/
theorem l_back {mc ms n0 : Nat} {st0 : List Value} {a : Array Value} (hr : r = none ∨ (∃ x, r = some (.int x)) ∨ ∃ x, r = some (.long x)) (M : lM D cA s ad S R mi ml ad' S' R' mi' ml' H locs) (c7 : ∀ a k, R1 a k ≤ S1.length) (hrun : va_Run p l e room_1 s m #[Value.ref b] below meth c H locs cells slots mc ms (F0 m pc ls st0) rest (zQc r D cA sp ad n0 (va_A (zws ad cA S R mi ml) H.size) S1 R1 mi1 ml1 a) (va_A (zws ad cA S R mi ml) H.size))
    (kk : ∀ (ad1 : Nat → Nat) (H1 : Heap) (locs1 : List Loc), (∀ c, c < n0 → ad1 c = ad c) → lM D cA s ad1 S1 R1 mi1 ml1 ad' S' R' mi' ml' H1 locs1 → W p l e room_1 s m #[Value.ref b] below meth c H1 locs1 (cells + mc) (slots + ms) Q (F0 m (pc + 3) ls (r.toList ++ rest))) : W p l e room_1 s m #[Value.ref b] below meth c H locs cells slots Q (F0 m pc ls st0) := by
  have hA1 := l_A1 M
  have hS := M.2.2.2.2.2.1
  rcases hr with rfl | ⟨x, rfl⟩ | ⟨x, rfl⟩
  · refine va_callv (a := a) hrun hS (fun q _ h => hA1 q h) hA1 (fun ad1 t H1 locs1 ht hvm hw hB hz hk1 hS1 => ?_)
    obtain ⟨b1, b2, b3⟩ := hB
    rw [ht] at b2
    exact kk ad1 H1 locs1 b1 (l_post M b2 b3 hk1 hS1 c7)
  · refine va_calli (a := a) hrun hS (fun q _ h => hA1 q h) hA1 (fun o ad1 t H1 locs1 ht hvm hw hB hz hk1 hS1 => ?_)
    obtain ⟨b1, b2, b3⟩ := hB
    rw [ht] at b2
    have hw : o = x := hw
    subst hw
    exact kk ad1 H1 locs1 b1 (l_post M b2 b3 hk1 hS1 c7)
  · refine va_calll (a := a) hrun hS (fun q _ h => hA1 q h) hA1 (fun o ad1 t H1 locs1 ht hvm hw hB hz hk1 hS1 => ?_)
    obtain ⟨b1, b2, b3⟩ := hB
    rw [ht] at b2
    have hw : o = x := hw
    subst hw
    exact kk ad1 H1 locs1 b1 (l_post M b2 b3 hk1 hS1 c7)
/-- a method's contract, at this heap -/
theorem l_met (F : lF p s m c b D cA sp) (M : lM D cA s ad S R mi ml ad' S' R' mi' ml' H locs) (hj : j < 258) (hz : zex f 40 j 0 (zent (.ref 0 :: args) (zM j).1) [] S R mi ml = some (r, S1, R1, mi1, ml1)) (hlen : (zarg (.ref 0 :: args)).length ≤ (zM j).1) (hargs : ∀ v ∈ args, (∃ x, v = .int x) ∨ ∃ x, v = .long x) (h0 : 0 < S.length) :
    ∃ mc ms, mc + S.length = S1.length ∧ ms + zsl S = zsl S1 ∧ (∀ a k, R1 a k ≤ S1.length) ∧ Met l (zY j).1 (zwj j) (zrm 40 mc ms) (va_Pc (.ref (ad 0) :: args) (zPre D cA sp ad S R mi ml H.size)) (zQc r D cA sp ad S.length (va_A (zws ad cA S R mi ml) H.size) S1 R1 mi1 ml1) mc ms (va_A (zws ad cA S R mi ml) H.size) := by
  have hga : ∀ v ∈ (Value.ref 0 :: args), zok S.length v := fun v hv => by
    rcases List.mem_cons.mp hv with rfl | hv
    · exact h0
    · rcases hargs v hv with ⟨x, rfl⟩ | ⟨x, rfl⟩ <;> trivial
  have m7 := M.2.2.2.2.2.2.1
  obtain ⟨b1, b2, b3, b4⟩ := zex_ok hz ⟨zent_ok hga, fun w hw => absurd hw List.not_mem_nil, m7⟩
  obtain ⟨mc, hmc⟩ : ∃ k, k + S.length = S1.length := ⟨S1.length - S.length, by omega⟩
  obtain ⟨ms, hms⟩ : ∃ k, k + zsl S = zsl S1 := ⟨zsl S1 - zsl S, by omega⟩
  refine ⟨mc, ms, hmc, hms, b2, ?_⟩
  have h := zmet (l := l) (D := D) (cA := cA) (sp := sp) (zsim l D cA sp f) (zkm_ok j hj) hj hz hlen hga m7 ad H.size mc ms hmc hms
  have e1 : (Value.ref 0 :: args).map (zvv ad sp) = .ref (ad 0) :: args := by
    rw [List.map_cons, l_map hargs]; rfl
  rw [e1] at h
  exact h
/-- a call of the class or of the reference -/
theorem l_call (F : lF p s m c b D cA sp) (M : lM D cA s ad S R mi ml ad' S' R' mi' ml' H locs) (hls : ls.size = 4) (hj : j < 258) (hz : zex f 40 j 0 (zent (.ref 0 :: args) (zM j).1) [] S R mi ml = some (r, S1, R1, mi1, ml1)) (hlen : (zarg (.ref 0 :: args)).length ≤ (zM j).1) (hargs : ∀ v ∈ args, (∃ x, v = .int x) ∨ ∃ x, v = .long x)
    (hS : S[0]? = some (ci, n)) (hci : ci < 13) (hcls : zOwn ci = (zY j).1.cls) (hl : Cond.methodLink R_law idx (zY j).1 ∈ lw_tbl) (hi : Cond.instanceMethod (zY j).1 ∈ lw_tbl) (hse : Cond.selects (zY j).1.cls (zY j).1 (zY j).1 ∈ lw_tbl) (hp : (parseMethodDescriptor (zY j).1.desc).map (fun d => d.parameters.length) = some args.length)
    (hcat : (rest.map fun v => v.category).sum ≤ 8) (hfit : cells + S1.length ≤ 600000 + S.length ∧ slots + zsl S1 ≤ 7302250 + zsl S) (hdg : decode code pc = .ok (.invokevirtual idx, 3)) (hr : r = none ∨ (∃ x, r = some (.int x)) ∨ ∃ x, r = some (.long x))
    (kk : ∀ (ad1 : Nat → Nat) (H1 : Heap) (locs1 : List Loc) (cells1 slots1 : Nat), (∀ c, c < S.length → ad1 c = ad c) → cells1 + S.length = cells + S1.length → slots1 + zsl S = slots + zsl S1 → lM D cA s ad1 S1 R1 mi1 ml1 ad' S' R' mi' ml' H1 locs1 → W p l e room_1 s m #[Value.ref b] below meth c H1 locs1 cells1 slots1 Q (F0 m (pc + 3) ls (r.toList ++ rest))) :
    W p l e room_1 s m #[Value.ref b] below meth c H locs cells slots Q (F0 m pc ls (args.reverse ++ .ref (ad 0) :: rest)) := by
  have h0 : 0 < S.length := (List.getElem?_eq_some_iff.mp hS).1
  obtain ⟨mc, ms, hmc, hms, b2, hM⟩ := l_met (l := l) F M hj hz hlen hargs h0
  have hpre := l_pre (As := .ref (ad 0) :: args) F M
  obtain ⟨g1, g2, g3, g4, g5, g6⟩ := zwj_good (zkm_ok j hj)
  obtain ⟨hx, hb, hml, ho, hts, hK, hE⟩ := id F
  have hws := zws_at (ad := ad) (cA := cA) (R := R) (mi := mi) (ml := ml) hS
  rw [zce_obj hci] at hws
  obtain ⟨C, T, N, hcl⟩ : ∃ C T N, zcl[ci]? = some (C, T, N) := by
    have : ci < zcl.length := hci
    exact ⟨_, _, _, List.getElem?_eq_getElem this⟩
  have hC := (zuT hcl).2.2.2
  have hcell : ∃ cell : Cell, H[ad 0]? = some cell ∧ cell.vm.isStatics = false ∧ s.vm.findClass (zY j).1.cls = some cell.cls := by
    rw [← hcls, ← hC]; exact va_recv hK M.1 hcl hws
  have hT := lw_T hts
  have hfix : CallFix p m c code 4 s #[Value.ref b] zwT R_law := ⟨hx, hb, hml, ho, hT⟩
  have hRoom : (zrm 40 mc ms).frames + 1 ≤ room_1.frames ∧ 8 + ((zM j).1 + 11) + (zrm 40 mc ms).locals ≤ room_1.locals := by
    show 40 + 1 + 1 ≤ 2048 ∧ 8 + ((zM j).1 + 11) + 100 * (40 + 1) ≤ 84000
    omega
  have hcat' : 2 * (F0 m pc ls (args.reverse ++ .ref (ad 0) :: rest)).monitorRoom + (rest.map fun v => v.category).sum ≤ 8 := by
    show 2 * 0 + _ ≤ 8; omega
  have hf' : cells + mc ≤ room_1.cells ∧ slots + ms ≤ room_1.slots := by
    show cells + mc ≤ 600000 ∧ slots + ms ≤ 7302250
    omega
  have hrun : va_Run p l e room_1 s m #[Value.ref b] below meth c H locs cells slots mc ms (F0 m pc ls (args.reverse ++ .ref (ad 0) :: rest)) rest (zQc r D cA sp ad S.length (va_A (zws ad cA S R mi ml) H.size) S1 R1 mi1 ml1 (Value.ref (ad 0) :: args).toArray) (va_A (zws ad cA S R mi ml) H.size) := va_runV hfix hM ⟨callB_of args.length hT g1 rfl rfl rfl (hT _ g2) (hts _ hl) ⟨g4.1, g4.2, hp⟩ hRoom, hts _ hi, hts _ hse⟩ ⟨zPre_blind, hcell, hpre⟩ rfl rfl hls rfl hcat' hdg hf'
  exact l_back hr M b2 hrun (fun ad1 H1 locs1 c1 c2 => kk ad1 H1 locs1 _ _ c1 (by omega) (by omega) c2)
end LCALL
