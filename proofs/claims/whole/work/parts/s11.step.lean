-- @after: 00.privs 01.names 02.code 03.tabs 04.mach 05.rows 06.facts 07.check 09.world 10.inrange
/-! One instruction of the pure machine is one of the real one -/
def zisN (w : Cond) : Bool := match w with
  | .fieldLinkNest .. => true
  | .methodLinkNest .. => true
  | .castable .. => true
  | _ => false
def zwN : List Cond := lw_tbl.filter zisN
def zLen : List Nat := [6, 6, 7, 4, 6, 3, 6]
def zByt : List (List Int32) := [zTab 20, zTab 21, zTab 22, zTab 23, zTab 24, zTab 25, zTab 26]
/-- what a frame takes from the start: the nest mates' words, the static tables, the texts -/
def zEnv (sp : Nat → Nat) (A : Nat → Prop) (U : State) (H : Heap) : Prop :=
  ((∀ w ∈ zwN, va_Nw w U) ∧ va_AO "OnlyStrangers$Scene" U ∧ va_AO "OnlyStrangers$Parish" U ∧ va_AO "OnlyStrangers$Plan" U ∧ va_Nw (.arrayOver (.array .long)) U ∧ va_Nw (.arrayOver (.array .int)) U) ∧
  (va_Z "OnlyStrangers" "PAIRS_OF" "[I" (.ref (sp 1)) A U H ∧ va_Z "OnlyStrangers" "APART" "[I" (.ref (sp 2)) A U H ∧ va_Z "OnlyStrangers" "KIND_ABOVE" "[I" (.ref (sp 3)) A U H) ∧
  (∀ k, 1 ≤ k → k ≤ 3 → va_T .int (sp k) (zTab k).length (fun j => .int ((zTab k).getD j 0)) A U H) ∧
  (va_Z "java/lang/String" "COMPACT_STRINGS" "Z" (.int 1) A U H ∧ va_Z "jdk/internal/util/Preconditions" "SIOOBE_FORMATTER" "Ljava/util/function/BiFunction;" (zsq sp 30) A U H) ∧
  (vk_R "OnlyStrangers$Reader" 51 "holds " (sp 10) U ∧ vk_R "OnlyStrangers$Reader" 63 "least " (sp 11) U ∧ vk_R "OnlyStrangers$Reader" 68 "forget " (sp 12) U ∧ vk_R "OnlyStrangers$Reader" 73 "bar " (sp 13) U ∧ vk_R "OnlyStrangers$Reader" 96 "abnwsc" (sp 14) U ∧ vk_R "OnlyStrangers$Reader" 102 "<=>" (sp 15) U ∧ vk_R "OnlyStrangers$Reader" 82 "worth " (sp 16) U) ∧
  vk_S 7 zLen zByt (fun i => sp (10 + i)) (fun i => sp (20 + i)) A U H
/-- a frame of method j -/
def zFx (j : Nat) (p : Program) (s : State) (m : MethodId) (args : Array Value) (meth : Method) (c : Code) (D : va_G) (cA sp : Nat → Nat) (A : Nat → Prop) : Prop :=
  p.tables.exec = Jvm.exec ∧ c.code = (zY j).2.1 ∧ c.maxLocals = (zM j).1 ∧ meth.sig.returnType = (zY j).2.2 ∧ s.vm.findClass (zY j).1.cls = some m.cls ∧ (∀ w ∈ zwT, w.before args s = true) ∧ meth.locks = false ∧ meth.name = (zY j).1.name ∧
  va_K D zcl (ztys cA) s ∧ (∀ q : Nat, s.heap.size ≤ q → A q) ∧ zEnv sp A s s.heap
def zRel (D : va_G) (cA sp ad : Nat → Nat) (A : Nat → Prop) (s : State) (S : zS) (R : zR0) (mi : zI) (ml : zJ) (H : Heap) (locs : List Loc) (L : List Value) (ls : Array Slot) : Prop :=
  va_P D zcl (zws ad cA S R mi ml) H ∧ va_D A (zws ad cA S R mi ml) ∧ va_S A s.heap H locs ∧ zlr ad sp L ls
theorem zsame_spec {C : List (Nat × Instr × Nat)} {i pc len n : Nat} {raw J : Instr} (h : zsame C i pc raw len n J = true) : raw = J ∧ len = n ∧ znx C (i + 1) (pc + n) = true := by
  simp only [zsame, Bool.and_eq_true, decide_eq_true_eq, beq_iff_eq] at h
  exact ⟨h.1.1, h.1.2, h.2⟩
theorem zbi_inv {f : Int32 → Int32 → Int32} {L st : List Value} {S : zS} {R : zR0} {mi : zI} {ml : zJ} {q : zT} (h : zbi f L st S R mi ml = some q) : ∃ a b st', st = .int b :: .int a :: st' ∧ q = (L, .int (f a b) :: st', S, R, mi, ml) := by
  unfold zbi at h
  split at h
  · exact ⟨_, _, _, rfl, (Option.some.inj h).symm⟩
  · cases h
theorem zcat_map {ad sp : Nat → Nat} (st : List Value) : ((st.map (zvv ad sp)).map fun v => v.category).sum = (st.map fun v => v.category).sum := by
  rw [List.map_map]
  congr 1
  apply List.map_congr_left
  intro v _
  exact zvv_cat v
theorem zbg_inv {f : Int32 → Int32 → Int32} {L st : List Value} {S : zS} {R : zR0} {mi : zI} {ml : zJ} {q : zT} (h : zbg f L st S R mi ml = some q) : ∃ a b st', st = .int b :: .int a :: st' ∧ q = (L, .int (f a b) :: st', S, R, mi, ml) ∧ (st'.map fun v => v.category).sum ≤ 8 := by
  unfold zbg at h
  split at h
  · split at h
    · exact ⟨_, _, _, rfl, (Option.some.inj h).symm, by assumption⟩
    · cases h
  · cases h
theorem zbl_inv {f : Int64 → Int64 → Int64} {L st : List Value} {S : zS} {R : zR0} {mi : zI} {ml : zJ} {q : zT} (h : zbl f L st S R mi ml = some q) : ∃ a b st', st = .long b :: .long a :: st' ∧ q = (L, .long (f a b) :: st', S, R, mi, ml) := by
  unfold zbl at h
  split at h
  · exact ⟨_, _, _, rfl, (Option.some.inj h).symm⟩
  · cases h
theorem zun_inv {f : Int32 → Value} {L st : List Value} {S : zS} {R : zR0} {mi : zI} {ml : zJ} {q : zT} (h : zun f L st S R mi ml = some q) : ∃ a st', st = .int a :: st' ∧ q = (L, f a :: st', S, R, mi, ml) := by
  unfold zun at h
  split at h
  · exact ⟨_, _, rfl, (Option.some.inj h).symm⟩
  · cases h
section STEP
variable {p : Program} {l : Launch} {e : Env} {Rm : Room} {s : State} {m : MethodId} {args : Array Value} {below : List Frame} {meth : Method} {c : Code} {H : Heap} {locs : List Loc} {cells slots : Nat} {Q : State → Prop}
variable {D : va_G} {cA sp ad : Nat → Nat} {A : Nat → Prop} {j i pc len : Nat} {raw I : Instr} {L st L1 st1 : List Value} {S S1 : zS} {R R1 : zR0} {mi mi1 : zI} {ml ml1 : zJ} {ls : Array Slot}
/-- what comes behind a step -/
def zKK (p : Program) (l : Launch) (e : Env) (Rm : Room) (s : State) (m : MethodId) (args : Array Value) (below : List Frame) (meth : Method) (c : Code) (cells slots : Nat) (Q : State → Prop) (D : va_G) (cA sp ad : Nat → Nat) (A : Nat → Prop) (j i : Nat) (S : zS) (q : zT) : Prop :=
  ∀ (pc1 : Nat), znx (zR j) (i + 1) pc1 = true → ∀ (ad1 : Nat → Nat) (H1 : Heap) (locs1 : List Loc) (ls1 : Array Slot) (cells1 slots1 : Nat), (∀ c, c < S.length → ad1 c = ad c) → cells1 + S.length = cells + q.2.2.1.length → slots1 + zsl S = slots + zsl q.2.2.1 →
    zRel D cA sp ad1 A s q.2.2.1 q.2.2.2.1 q.2.2.2.2.1 q.2.2.2.2.2 H1 locs1 q.1 ls1 → W p l e Rm s m args below meth c H1 locs1 cells1 slots1 Q (F0 m pc1 ls1 (q.2.1.map (zvv ad1 sp)))
/-- the memory stays -/
theorem zKK.same {q : zT} (kk : zKK p l e Rm s m args below meth c cells slots Q D cA sp ad A j i S q) (h : zRel D cA sp ad A s S R mi ml H locs L ls) (hq : q = (L, st1, S, R, mi, ml)) {pc1 : Nat} (hn : znx (zR j) (i + 1) pc1 = true) : W p l e Rm s m args below meth c H locs cells slots Q (F0 m pc1 ls (st1.map (zvv ad sp))) := by
  subst hq
  exact kk pc1 hn ad H locs ls cells slots (fun _ _ => rfl) rfl rfl h
/-- the memory stays, the locals don't -/
theorem zKK.lset {q : zT} (kk : zKK p l e Rm s m args below meth c cells slots Q D cA sp ad A j i S q) (h : zRel D cA sp ad A s S R mi ml H locs L ls) (hq : q = (L1, st1, S, R, mi, ml)) {pc1 : Nat} (hn : znx (zR j) (i + 1) pc1 = true) {ls1 : Array Slot} (hl : zlr ad sp L1 ls1) : W p l e Rm s m args below meth c H locs cells slots Q (F0 m pc1 ls1 (st1.map (zvv ad sp))) := by
  subst hq
  exact kk pc1 hn ad H locs ls1 cells slots (fun _ _ => rfl) rfl rfl ⟨h.1, h.2.1, h.2.2.1, hl⟩
end STEP
theorem zrem_i (a b : Int32) : a - a / b * b = a % b := by
  apply Int32.toInt_inj.mp
  have h : a.toInt - a.toInt.tdiv b.toInt * b.toInt = a.toInt.tmod b.toInt := by
    have := Int.mul_tdiv_add_tmod a.toInt b.toInt
    rw [Int.mul_comm] at this
    omega
  have e : (a % b).toInt = (a.toInt.tmod b.toInt).bmod (2^32) := by
    rw [← Int32.toInt_mod]
    exact (Int32.toInt_bmod _).symm
  rw [e, ← h]
  simp only [Int32.toInt_sub, Int32.toInt_mul, Int32.toInt_div]
  simp only [Int.bmod_mul_bmod, Int.sub_bmod_bmod]
theorem zrem_l (a b : Int64) : a - a / b * b = a % b := by
  apply Int64.toInt_inj.mp
  have h : a.toInt - a.toInt.tdiv b.toInt * b.toInt = a.toInt.tmod b.toInt := by
    have := Int.mul_tdiv_add_tmod a.toInt b.toInt
    rw [Int.mul_comm] at this
    omega
  have e : (a % b).toInt = (a.toInt.tmod b.toInt).bmod (2^64) := by
    rw [← Int64.toInt_mod]
    exact (Int64.toInt_bmod _).symm
  rw [e, ← h]
  simp only [Int64.toInt_sub, Int64.toInt_mul, Int64.toInt_div]
  simp only [Int.bmod_mul_bmod, Int.sub_bmod_bmod]
