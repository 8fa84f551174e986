-- @after: 00.privs 01.names 02.code 03.tabs 04.mach 05.rows 06.facts 07.check 09.world 10.inrange 11.step 12.step2 13.step3 14.step4 15.step5 16.mna 17.alloc 18.more 19.sim 20.jump 21.call
/-! the kinds of calls -/
theorem zall2_at {α β : Type} {f : α → β → Bool} : ∀ {l : List α} {k : List β}, zall2 f l k = true → ∀ a ∈ l, ∃ b ∈ k, f a b = true
  | [], [], _, a, h => absurd h List.not_mem_nil
  | [], _ :: _, h, _, _ => by simp [zall2] at h
  | _ :: _, [], h, _, _ => by simp [zall2] at h
  | x :: l, y :: k, h, a, ha => by
    simp only [zall2, Bool.and_eq_true] at h
    rcases List.mem_cons.mp ha with rfl | ha
    · exact ⟨y, List.mem_cons_self, h.1⟩
    · obtain ⟨b, hb, hf⟩ := zall2_at h.2 a ha
      exact ⟨b, List.mem_cons_of_mem _ hb, hf⟩
theorem zall2_at' {α β : Type} {f : α → β → Bool} : ∀ {l : List α} {k : List β}, zall2 f l k = true → ∀ b ∈ k, ∃ a ∈ l, f a b = true
  | [], [], _, a, h => absurd h List.not_mem_nil
  | [], _ :: _, h, _, _ => by simp [zall2] at h
  | _ :: _, [], h, _, _ => by simp [zall2] at h
  | x :: l, y :: k, h, b, hb => by
    simp only [zall2, Bool.and_eq_true] at h
    rcases List.mem_cons.mp hb with rfl | hb
    · exact ⟨x, List.mem_cons_self, h.1⟩
    · obtain ⟨a, ha, hf⟩ := zall2_at' h.2 b hb
      exact ⟨a, List.mem_cons_of_mem _ ha, hf⟩
theorem zsite_words {v : Nat} (h : zchv v = true) {q : Nat × Nat} (hq : q ∈ (zV v).2.2) : zvt v q = true ∧ (∀ w ∈ zsw_ v q.1 q.2, w ∈ lw_tbl) ∧ zmw v ∈ lw_tbl := by
  unfold zchv at h
  simp only [Bool.and_eq_true] at h
  obtain ⟨⟨⟨-, h1⟩, h2⟩, -⟩ := h
  obtain ⟨ps, -, hf⟩ := zall2_at h2 q hq
  rw [Bool.and_eq_true] at hf
  refine ⟨hf.1, fun w hw => ?_, zAt_mem h1⟩
  obtain ⟨p, -, hp⟩ := zall2_at' hf.2 w hw
  exact zAt_mem hp
section CALL
variable {p : Program} {l : Launch} {e : Env} {Rm : Room} {s : State} {m : MethodId} {args : Array Value} {below : List Frame} {meth : Method} {c : Code} {H : Heap} {locs : List Loc} {cells slots : Nat} {Q : State → Prop}
variable {D : va_G} {cA sp ad : Nat → Nat} {A : Nat → Prop} {j i pc len : Nat} {L st : List Value} {S S1 : zS} {R R1 : zR0} {mi mi1 : zI} {ml ml1 : zJ} {ls : Array Slot} {r : Option Value}
theorem zPre_blind {As : List Value} {sz : Nat} : FrameBlind (va_Pc As (zPre D cA sp ad S R mi ml sz)) := by
  intro a U g mk h
  obtain ⟨h1, h2, h3, h4, h5, h6⟩ := h
  exact ⟨h1, h2, h3, va_K.moved (u := U) (U := U.calling g mk a) (Vm.Alike.refl U.vm) h4, h5, zEnv.same (U := U.calling g mk a) h6 rfl⟩
theorem zPre_at {As : List Value} (hF : zFx j p s m args meth c D cA sp A) (hrel : zRel D cA sp ad A s S R mi ml H locs L ls) : ∀ U : State, U.heap = H → s.WarmedH U.vm → va_Pc As (zPre D cA sp ad S R mi ml H.size) As.toArray U := by
  obtain ⟨hx, hb, -, hr, ho, hts, hlocks, hnm, hK, hA, hE⟩ := id hF
  intro U hU hW
  refine ⟨rfl, by rw [hU], by rw [hU]; exact hrel.1, va_K.moved hW.alike hK, hrel.2.1.weaken (fun _ _ _ _ => trivial), ?_⟩
  rw [hU]
  refine ((hE.kept hrel.2.2.1.2.1).narrow (fun q h => ?_)).warm hW
  rcases h with ⟨k, ee, h⟩ | h
  · exact hrel.2.1.2 k _ h
  · exact hA q (Nat.le_trans hrel.2.2.1.1 h)
theorem zfree (hF : zFx j p s m args meth c D cA sp A) (hrel : zRel D cA sp ad A s S R mi ml H locs L ls) : ∀ q, va_A (zws ad cA S R mi ml) H.size q → A q := by
  obtain ⟨hx, hb, -, hr, ho, hts, hlocks, hnm, hK, hA, hE⟩ := id hF
  intro q h
  rcases h with ⟨k, ee, h⟩ | h
  · exact hrel.2.1.2 k _ h
  · exact hA q (Nat.le_trans hrel.2.2.1.1 h)
/-- behind a call -/
theorem zback {mc ms n0 : Nat} {st0 rest : List Value} {a : Array Value} {A1 : Nat → Prop} (hr : va_Run p l e Rm s m args below meth c H locs cells slots mc ms (F0 m pc ls st0) rest (zQc r D cA sp ad n0 A1 S1 R1 mi1 ml1 a) A1) (hS : va_S A s.heap H locs) (hA : ∀ q, A1 q → A q)
    (kk : ∀ (ad1 : Nat → Nat) (H1 : Heap) (locs1 : List Loc), (∀ c, c < n0 → ad1 c = ad c) → va_P D zcl (zws ad1 cA S1 R1 mi1 ml1) H1 → va_D A (zws ad1 cA S1 R1 mi1 ml1) → va_S A s.heap H1 locs1 →
      W p l e Rm s m args below meth c H1 locs1 (cells + mc) (slots + ms) Q (F0 m (pc + 3) ls (r.toList.map (zvv ad1 sp) ++ rest))) : W p l e Rm s m args below meth c H locs cells slots Q (F0 m pc ls st0) := by
  have q9 : ∀ (v : Value), r = some v → (∀ x, v ≠ .int x) → (∀ x, v ≠ .long x) → va_Run p l e Rm s m args below meth c H locs cells slots mc ms (F0 m pc ls st0) rest (va_Qq (fun o ad1 => va_rf o = zvv ad1 sp v) (zPost D cA ad n0 A1 S1 R1 mi1 ml1) A1 a) A1 → W p l e Rm s m args below meth c H locs cells slots Q (F0 m pc ls st0) := by
    intro v hv _ _ h
    subst hv
    refine va_callq (a := a) h hS (fun q _ h => hA q h) hA (fun o ad1 t H1 locs1 ht hvm hw hB hz hk1 hS1 => ?_)
    obtain ⟨b1, b2, b3⟩ := hB
    rw [ht] at b2
    have := kk ad1 H1 locs1 b1 b2 (b3.weaken (fun _ q _ h => hA q.1 h)) hS1
    rw [hw]; exact this
  cases r with
  | none =>
    refine va_callv (a := a) hr hS (fun q _ h => hA q h) hA (fun ad1 t H1 locs1 ht hvm hw hB hz hk1 hS1 => ?_)
    obtain ⟨b1, b2, b3⟩ := hB
    rw [ht] at b2
    exact kk ad1 H1 locs1 b1 b2 (b3.weaken (fun _ q _ h => hA q.1 h)) hS1
  | some v =>
    cases v with
    | int x =>
      refine va_calli (a := a) hr hS (fun q _ h => hA q h) hA (fun o ad1 t H1 locs1 ht hvm hw hB hz hk1 hS1 => ?_)
      obtain ⟨b1, b2, b3⟩ := hB
      rw [ht] at b2
      have hw : o = x := hw
      subst hw
      exact kk ad1 H1 locs1 b1 b2 (b3.weaken (fun _ q _ h => hA q.1 h)) hS1
    | long x =>
      refine va_calll (a := a) hr hS (fun q _ h => hA q h) hA (fun o ad1 t H1 locs1 ht hvm hw hB hz hk1 hS1 => ?_)
      obtain ⟨b1, b2, b3⟩ := hB
      rw [ht] at b2
      have hw : o = x := hw
      subst hw
      exact kk ad1 H1 locs1 b1 b2 (b3.weaken (fun _ q _ h => hA q.1 h)) hS1
    | float x => exact q9 _ rfl (fun x h => by cases h) (fun x h => by cases h) hr
    | double x => exact q9 _ rfl (fun x h => by cases h) (fun x h => by cases h) hr
    | null => exact q9 _ rfl (fun x h => by cases h) (fun x h => by cases h) hr
    | ref x => exact q9 _ rfl (fun x h => by cases h) (fun x h => by cases h) hr
    | retAddr x => exact q9 _ rfl (fun x h => by cases h) (fun x h => by cases h) hr
theorem zsub_up {sup owner : String} {cn c2 : ClassId} {args : Array Value} {s : State} (h1 : s.vm.findClass sup = some cn) (h2 : s.vm.findClass owner = some c2) (h : owner = sup ∨ (Cond.superclass sup owner).before args s = true) : s.vm.isSubclass cn c2 = true := by
  rcases h with rfl | h
  · rw [Option.some.inj (h1.symm.trans h2)]
    simp [Vm.isSubclass, Vm.isSubclassAux]
  · obtain ⟨pp, k, kp, hp, hk, hkp, hsup, -⟩ := Cond.superclass_spec h1 h
    cases h2.symm.trans hp
    have hlt := (Array.getElem?_eq_some_iff.mp hk).1
    have hlt2 := (Array.getElem?_eq_some_iff.mp hkp).1
    obtain ⟨n, hn⟩ : ∃ n, s.vm.classes.size = n + 1 := ⟨s.vm.classes.size - 1, by omega⟩
    unfold Vm.isSubclass
    rw [hn]
    simp [Vm.isSubclassAux, hk, hsup]
end CALL
