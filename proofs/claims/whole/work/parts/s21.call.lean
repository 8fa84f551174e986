-- @import: JvmDerived.Shelf.KitTracedC
-- @after: 00.privs 01.names 02.code 03.tabs 04.mach 05.rows 06.facts 07.check 09.world 10.inrange 11.step 12.step2 13.step3 14.step4 15.step5 16.mna 17.alloc 18.more 19.sim 20.jump
/-! contracts out of runs; the calls -/
def zwj (j : Nat) : List Cond := .code (zY j).1 (zY j).2.1 (zM j).1 (zY j).2.2 :: zwT
def zPre (D : va_G) (cA sp ad : Nat → Nat) (S : zS) (R : zR0) (mi : zI) (ml : zJ) (sz : Nat) (U : State) : Prop :=
  U.heap.size = sz ∧ va_P D zcl (zws ad cA S R mi ml) U.heap ∧ va_K D zcl (ztys cA) U ∧ va_D (fun _ => True) (zws ad cA S R mi ml) ∧ zEnv sp (va_A (zws ad cA S R mi ml) sz) U U.heap
def zPost (D : va_G) (cA ad0 : Nat → Nat) (n0 : Nat) (A : Nat → Prop) (S1 : zS) (R1 : zR0) (mi1 : zI) (ml1 : zJ) (ad1 : Nat → Nat) (t : State) : Prop :=
  (∀ c, c < n0 → ad1 c = ad0 c) ∧ va_P D zcl (zws ad1 cA S1 R1 mi1 ml1) t.heap ∧ va_D A (zws ad1 cA S1 R1 mi1 ml1)
def zQc (r : Option Value) (D : va_G) (cA sp ad0 : Nat → Nat) (n0 : Nat) (A : Nat → Prop) (S1 : zS) (R1 : zR0) (mi1 : zI) (ml1 : zJ) : Array Value → State → Outcome → State → Prop := match r with
  | none => va_Qv (fun _ => True) (zPost D cA ad0 n0 A S1 R1 mi1 ml1) A
  | some (.int v) => va_Qi (fun w _ => w = v) (zPost D cA ad0 n0 A S1 R1 mi1 ml1) A
  | some (.long v) => va_Ql (fun w _ => w = v) (zPost D cA ad0 n0 A S1 R1 mi1 ml1) A
  | some v => va_Qq (fun o ad1 => va_rf o = zvv ad1 sp v) (zPost D cA ad0 n0 A S1 R1 mi1 ml1) A
theorem zwT_good : GoodIn zwT zwT := fun w hw => ⟨hw, good_of_word (List.mem_filter.mp hw).2⟩
theorem zwj_good {j : Nat} (hm : zchm j = true) : GoodIn zwT (zwj j) ∧ Cond.initialized (zY j).1.cls ∈ zwT ∧ plainName (zY j).1.cls = true ∧ ((zY j).1.cls ≠ "java/lang/invoke/MethodHandle" ∧ (zY j).1.cls ≠ "java/lang/invoke/VarHandle") ∧ zOwn (zM j).2.1 = (zY j).1.cls ∧ (zM j).1 ≤ 20 := by
  unfold zchm at hm
  simp only [Bool.and_eq_true, decide_eq_true_eq] at hm
  obtain ⟨⟨⟨⟨⟨⟨⟨⟨⟨-, -⟩, h1⟩, h2⟩, h3⟩, h4⟩, h5⟩, h6⟩, h7⟩, -⟩ := hm
  refine ⟨fun w hw => ?_, zmem_wT (zAt_mem h6) rfl, h1, ⟨h2, h3⟩, h4, h7⟩
  rcases List.mem_cons.mp hw with rfl | hw
  · exact ⟨zmem_wT (zAt_mem h5) rfl, good_of_word rfl⟩
  · exact zwT_good w hw
theorem zEnv.narrow {sp : Nat → Nat} {A B : Nat → Prop} {U : State} {H : Heap} (h : zEnv sp A U H) (hAB : ∀ q, B q → A q) : zEnv sp B U H := by
  obtain ⟨h1, ⟨a1, a2, a3⟩, h3, ⟨b1, b2⟩, h5, h6⟩ := h
  exact ⟨h1, ⟨a1.narrow hAB, a2.narrow hAB, a3.narrow hAB⟩, fun k x y => (h3 k x y).narrow hAB, ⟨b1.narrow hAB, b2.narrow hAB⟩, h5, h6.narrow hAB⟩
theorem zEnv.kept {sp : Nat → Nat} {A : Nat → Prop} {U : State} {H H1 : Heap} (h : zEnv sp A U H) (hq : ∀ a : Nat, a < H.size → ¬ A a → H1[a]? = H[a]?) : zEnv sp A U H1 := by
  obtain ⟨h1, ⟨a1, a2, a3⟩, h3, ⟨b1, b2⟩, h5, h6⟩ := h
  exact ⟨h1, ⟨a1.kept hq, a2.kept hq, a3.kept hq⟩, fun k x y => (h3 k x y).kept hq, ⟨b1.kept hq, b2.kept hq⟩, h5, h6.kept hq⟩
theorem zNw_warm {w : Cond} (hw : zisN w = true) {s U : State} (hW : s.WarmedH U.vm) (h : va_Nw w s) : va_Nw w U := by
  cases w <;> simp [zisN] at hw
  · exact h.warmM hW
  · exact h.warmF hW
  · exact h.warmC hW
theorem zAO_moved {ty : FieldType} {u U : State} (hv : u.vm.Alike U.vm) (h : va_Nw (.arrayOver ty) u) : va_Nw (.arrayOver ty) U := by
  have h1 := Cond.arrayOver_setVmC (args := #[]) (s := u) hv ty
  show (Cond.arrayOver ty).before #[] (u.setVm U.vm) = true
  rw [h1]; exact h
theorem zEnv.warm {sp : Nat → Nat} {A : Nat → Prop} {s U : State} {H : Heap} (h : zEnv sp A s H) (hW : s.WarmedH U.vm) : zEnv sp A U H := by
  obtain ⟨⟨h1, c1, c2, c3, c4, c5⟩, ⟨a1, a2, a3⟩, h3, ⟨b1, b2⟩, ⟨r1, r2, r3, r4, r5, r6, r7⟩, h6⟩ := h
  have hv := hW.alike
  refine ⟨⟨fun w hw => zNw_warm (List.mem_filter.mp hw).2 hW (h1 w hw), c1.moved hv, c2.moved hv, c3.moved hv, ?_, ?_⟩, ⟨a1.moved hv, a2.moved hv, a3.moved hv⟩, fun k x y => (h3 k x y).moved hv, ⟨b1.moved hv, b2.moved hv⟩, ⟨r1.warm hW, r2.warm hW, r3.warm hW, r4.warm hW, r5.warm hW, r6.warm hW, r7.warm hW⟩, h6.moved hv⟩
  · exact zAO_moved hv c4
  · exact zAO_moved hv c5
theorem zEnv.same {sp : Nat → Nat} {A : Nat → Prop} {s U : State} {H : Heap} (h : zEnv sp A s H) (hv : U.vm = s.vm) : zEnv sp A U H := h.warm (by rw [hv]; exact State.WarmedH.refl s)
theorem zarg_len {ad sp : Nat → Nat} : ∀ (l : List Value), (lg_sl (l.map (zvv ad sp))).length = (zarg l).length
  | [] => rfl
  | v :: l => by
    have ih := zarg_len (ad := ad) (sp := sp) l
    unfold zarg
    simp only [lg_sl, List.map_cons, List.flatMap_cons, zvv_cat] at ih ⊢
    split <;> simp [ih]
theorem zarg_at {ad sp : Nat → Nat} : ∀ (l : List Value) (k i : Nat) (v : Value), (zarg l)[i]? = some v → v ≠ .retAddr 0 → (k + i, zvv ad sp v) ∈ lv_args k (l.map (zvv ad sp))
  | [], k, i, v, h, _ => by simp [zarg] at h
  | w :: l, k, i, v, h, hv => by
    unfold zarg at h
    simp only [List.map_cons, lv_args, zvv_cat]
    split at h
    · rename_i hc
      rw [if_pos hc]
      match i, h with
      | 0, h => cases h; exact List.mem_cons_self
      | 1, h => simp at h; exact absurd h.symm hv
      | i + 2, h =>
        have := zarg_at (ad := ad) (sp := sp) l (k + 2) i v (by simpa using h) hv
        rw [show k + 2 + i = k + (i + 2) by omega] at this
        exact List.mem_cons_of_mem _ this
    · rename_i hc
      rw [if_neg hc]
      match i, h with
      | 0, h => cases h; exact List.mem_cons_self
      | i + 1, h =>
        have := zarg_at (ad := ad) (sp := sp) l (k + 1) i v (by simpa using h) hv
        rw [show k + 1 + i = k + (i + 1) by omega] at this
        exact List.mem_cons_of_mem _ this
theorem zent_lr {ad sp : Nat → Nat} {args : List Value} {n : Nat} {ls : Array Slot} (hlen : (zarg args).length ≤ n) (h : lv_has ls n (lv_args 0 (args.map (zvv ad sp)))) : zlr ad sp (zent args n) ls := by
  refine ⟨by rw [h.1]; unfold zent; rw [List.length_append, List.length_replicate]; omega, h.2.1, fun i v hi hv => ?_⟩
  unfold zent at hi
  by_cases hl : i < (zarg args).length
  · rw [List.getElem?_append_left hl] at hi
    have := zarg_at (ad := ad) (sp := sp) args 0 i v hi hv
    rw [Nat.zero_add] at this
    exact h.2.2 _ this
  · rw [List.getElem?_append_right (by omega), List.getElem?_replicate] at hi
    split at hi
    · exact absurd (Option.some.inj hi).symm hv
    · cases hi
theorem zent_len {args : List Value} {n : Nat} (hlen : (zarg args).length ≤ n) : (zent args n).length = n := by
  unfold zent; rw [List.length_append, List.length_replicate]; omega
/-- a run of f steps is one of the real machine, in any frame -/
def zsimP (l : Launch) (D : va_G) (cA sp : Nat → Nat) (f : Nat) : Prop :=
  ∀ (d j i : Nat) (L st : List Value) (S : zS) (R : zR0) (mi : zI) (ml : zJ) (r : Option Value) (S1 : zS) (R1 : zR0) (mi1 : zI) (ml1 : zJ), zex f d j i L st S R mi ml = some (r, S1, R1, mi1, ml1) →
  ∀ (p : Program) (e : Env) (s : State) (m : MethodId) (args : Array Value) (below : List Frame) (meth : Method) (c : Code) (ad0 : Nat → Nat) (S0 : zS) (A : Nat → Prop) (mc ms : Nat) (ad : Nat → Nat) (H : Heap) (locs : List Loc) (ls : Array Slot) (cells slots pc : Nat) (raw : Instr) (len : Nat),
    j < 258 → zFx j p s m args meth c D cA sp A → L.length = (zM j).1 → zgd9 S.length L st R → (zR j)[i]? = some (pc, raw, len) → zRel D cA sp ad A s S R mi ml H locs L ls → (∀ c, c < S0.length → ad c = ad0 c) → S0.length ≤ S.length →
    cells + S0.length = S.length → slots + zsl S0 = zsl S → mc + S0.length = S1.length → ms + zsl S0 = zsl S1 →
    W p l e (zrm d mc ms) s m args below meth c H locs cells slots (MQ below (zQc r D cA sp ad0 S0.length A S1 R1 mi1 ml1) args s mc ms A) (F0 m pc ls (st.map (zvv ad sp)))
/-- a method's contract out of its run -/
theorem zmet {l : Launch} {D : va_G} {cA sp : Nat → Nat} {f d j : Nat} {args : List Value} {S : zS} {R : zR0} {mi : zI} {ml : zJ} {r : Option Value} {S1 : zS} {R1 : zR0} {mi1 : zI} {ml1 : zJ} (ih : zsimP l D cA sp f) (hm : zchm j = true) (hj : j < 258) (h : zex f d j 0 (zent args (zM j).1) [] S R mi ml = some (r, S1, R1, mi1, ml1)) (hlen : (zarg args).length ≤ (zM j).1) (hga : ∀ v ∈ args, zok S.length v) (hgR : ∀ c k, R c k ≤ S.length)
    (ad : Nat → Nat) (sz mc ms : Nat) (hmc : mc + S.length = S1.length) (hms : ms + zsl S = zsl S1) :
    Met l (zY j).1 (zwj j) (zrm d mc ms) (va_Pc (args.map (zvv ad sp)) (zPre D cA sp ad S R mi ml sz)) (zQc r D cA sp ad S.length (va_A (zws ad cA S R mi ml) sz) S1 R1 mi1 ml1) mc ms (va_A (zws ad cA S R mi ml) sz) := by
  obtain ⟨g1, g2, g3, g4, g5, g6⟩ := zwj_good hm
  refine Met.ofW (cc := (zY j).2.1) (maxL := (zM j).1) (ret := (zY j).2.2) g3 rfl ?_
  intro p e s m args' below meth c s₁ B hml hv
  obtain ⟨rfl, hsz, hP, hK, hD0, hE⟩ := hv
  subst hsz
  have hts := atoms_spec (ws := zwj j) B.pre
  have hD := hD0.self (sz := s.heap.size)
  have hpc : ∃ raw len, (zR j)[0]? = some (0, raw, len) := by
    unfold zchm at hm
    simp only [Bool.and_eq_true] at hm
    exact znx_at hm.1.1.1.1.1.1.1.1.2
  obtain ⟨raw, len, h0⟩ := hpc
  have hl := lv_entry (args.map (zvv ad sp)) (n := (zM j).1) (by rw [zarg_len]; exact hlen)
  rw [lg_entry_eq]
  exact ih d j 0 (zent args (zM j).1) [] S R mi ml r S1 R1 mi1 ml1 h p e s m _ below meth c ad S (va_A (zws ad cA S R mi ml) s.heap.size) mc ms ad s.heap [] _ 0 0 0 raw len hj
    ⟨B.exec, B.bytes, hml, B.returns, findClass_of_methodNamed B.named, fun w hw => hts w (List.mem_cons_of_mem _ hw), B.notSynchronized, (name_of_methodNamed B.named B.method).1, hK, fun q h => Or.inr h, hE⟩
    (zent_len hlen) ⟨zent_ok hga, (fun _ h => absurd h List.not_mem_nil), hgR⟩ h0 ⟨hP, hD, va_S.rf, zent_lr hlen hl⟩ (fun _ _ => rfl) (Nat.le_refl _) (Nat.zero_add _) (Nat.zero_add _) hmc hms
