-- @after: 00.privs 01.names 02.code 03.tabs 04.mach 05.rows 06.facts 07.check 09.world 10.inrange 11.step 12.step2 13.step3 14.step4 15.step5 16.mna 17.alloc 18.more
/-! a run of the pure machine is one of the real one: what the checks say, and the jumps -/
theorem zchk_at {j i : Nat} {I : Instr} (h : zchk j = true) (hI : (zC j)[i]? = some I) : ∃ pc raw len, (zR j)[i]? = some (pc, raw, len) ∧ zck (zM j).2.1 (zR j) i pc raw len I = true ∧ (len ≠ 0 → decode (zY j).2.1 pc = .ok (raw, len)) ∧ (∀ f, I = .putfield f → zfin_ f (decide ((zY j).1.name = "<init>")) = true) ∧ (match I with
    | .ireturn => [1, 2, 3, 4].contains (zM j).2.2 = true
    | .lreturn => (zM j).2.2 = 5
    | .areturn => (zM j).2.2 = 6
    | .return_ => (zM j).2.2 = 0
    | .new ci => ci ≠ 12 ∧ ci ≠ 11
    | _ => True) := by
  unfold zchk at h
  rw [Bool.and_eq_true] at h
  have h1 := List.all_eq_true.mp h.2 i (List.mem_range.mpr (List.getElem?_eq_some_iff.mp hI).1)
  rw [hI] at h1
  cases hR : (zR j)[i]? with
  | none => simp [hR] at h1
  | some q =>
    obtain ⟨pc, raw, len⟩ := q
    rw [hR] at h1
    simp only [Bool.and_eq_true, Bool.or_eq_true, beq_iff_eq, decide_eq_true_eq] at h1
    refine ⟨pc, raw, len, rfl, h1.1.1, fun hl => ?_, fun f hf => ?_, ?_⟩
    · rcases h1.1.2 with z | z
      · exact absurd z hl
      · exact z
    · subst hf; exact h1.2
    · have h2 := h1.2
      cases I <;> first | trivial | exact h2 | (simpa using h2)
theorem znx_at {C : List (Nat × Instr × Nat)} {i pc : Nat} (h : znx C i pc = true) : ∃ raw len, C[i]? = some (pc, raw, len) := by
  unfold znx at h
  split at h
  · rename_i q hq
    obtain ⟨a, b, d⟩ := q
    have : a = pc := by simpa using h
    subst this
    exact ⟨b, d, hq⟩
  · cases h
theorem zto_at {C : List (Nat × Instr × Nat)} {t p : Int} (h : zto C t p = true) : ∃ pc raw len, C[t.toNat]? = some (pc, raw, len) ∧ (pc : Int) = p := by
  unfold zto at h
  rw [Bool.and_eq_true] at h
  obtain ⟨-, h⟩ := h
  split at h
  · rename_i q hq
    obtain ⟨a, b, d⟩ := q
    exact ⟨a, b, d, hq, by simpa using h⟩
  · cases h
def zrm (d mc ms : Nat) : Room := { frames := d + 1, cells := mc, slots := ms, locals := 100 * (d + 1) }
/-- a run ends in bounds -/
theorem zrt_ok {rk : Nat} {I : Instr} {st : List Value} {r : Option Value} {n : Nat} (h : zrt rk I st = some r) (hg : ∀ v ∈ st, zok n v) : ∀ v, r = some v → zok n v := by
  intro v hv
  subst hv
  cases I
  case return_ => simp only [zrt] at h; split at h <;> cases h
  case ireturn =>
    simp only [zrt] at h
    split at h
    · split at h
      · cases h; trivial
      · cases h
    · cases h
  case lreturn =>
    simp only [zrt] at h
    split at h
    · cases h; trivial
    · cases h
  case areturn =>
    simp only [zrt] at h
    split at h
    · cases h; exact hg _ List.mem_cons_self
    · cases h; trivial
    · cases h
  all_goals cases h
theorem zjp_ok {I : Instr} {i i1 : Nat} {st st1 : List Value} {n : Nat} (h : zjp I i st = some (i1, st1)) (hg : ∀ v ∈ st, zok n v) : ∀ v ∈ st1, zok n v := by
  cases I
  case goto t => simp only [zjp] at h; cases h; exact hg
  case ifCond c t =>
    simp only [zjp] at h
    split at h
    · cases h; exact fun v hv => hg v (List.mem_cons_of_mem _ hv)
    · cases h
  case if_icmp c t =>
    simp only [zjp] at h
    split at h
    · cases h; exact fun v hv => hg v (List.mem_cons_of_mem _ (List.mem_cons_of_mem _ hv))
    · cases h
  case ifnull t =>
    simp only [zjp] at h
    split at h
    · cases h; exact fun v hv => hg v (List.mem_cons_of_mem _ hv)
    · cases h; exact fun v hv => hg v (List.mem_cons_of_mem _ hv)
    · cases h
  case ifnonnull t =>
    simp only [zjp] at h
    split at h
    · cases h; exact fun v hv => hg v (List.mem_cons_of_mem _ hv)
    · cases h; exact fun v hv => hg v (List.mem_cons_of_mem _ hv)
    · cases h
  case lookupswitch d ps =>
    simp only [zjp] at h
    split at h
    · cases h; exact fun v hv => hg v (List.mem_cons_of_mem _ hv)
    · cases h
  all_goals cases h
theorem zent_ok {n k : Nat} : ∀ {args : List Value}, (∀ v ∈ args, zok n v) → ∀ v ∈ zent args k, zok n v := by
  intro args h v hv
  unfold zent at hv
  have h1 : ∀ (l : List Value), (∀ v ∈ l, zok n v) → ∀ v ∈ zarg l, zok n v := by
    intro l
    induction l with
    | nil => intro _ v hv; cases hv
    | cons a l ih =>
      intro hl v hv
      have hla : zok n a := hl a List.mem_cons_self
      have hll : ∀ v ∈ l, zok n v := fun v hv => hl v (List.mem_cons_of_mem _ hv)
      unfold zarg at hv
      split at hv
      · rcases List.mem_cons.mp hv with rfl | hv
        · exact hla
        · rcases List.mem_cons.mp hv with rfl | hv
          · trivial
          · exact ih hll v hv
      · rcases List.mem_cons.mp hv with rfl | hv
        · exact hla
        · exact ih hll v hv
  rcases List.mem_append.mp hv with hv | hv
  · exact h1 args h v hv
  · rw [(List.mem_replicate.mp hv).2]; trivial
theorem zex_ok : ∀ {f d j i : Nat} {L st : List Value} {S : zS} {R : zR0} {mi : zI} {ml : zJ} {r : Option Value} {S1 : zS} {R1 : zR0} {mi1 : zI} {ml1 : zJ}, zex f d j i L st S R mi ml = some (r, S1, R1, mi1, ml1) → zgd9 S.length L st R →
    (∀ v, r = some v → zok S1.length v) ∧ (∀ c k, R1 c k ≤ S1.length) ∧ S.length ≤ S1.length ∧ zsl S ≤ zsl S1 := by
  intro f
  induction f with
  | zero => intro d j i L st S R mi ml r S1 R1 mi1 ml1 h; simp [zex] at h
  | succ f ih =>
    intro d j i L st S R mi ml r S1 R1 mi1 ml1 h hg
    rw [zex] at h
    cases hC : (zC j)[i]? with
    | none => simp [hC] at h
    | some I =>
      simp only [hC] at h
      cases hs : zst I L st S R mi ml with
      | some q =>
        have ho := zst_ok hg hs
        obtain ⟨L2, st2, S2, R2, mi2, ml2⟩ := q
        simp only [hs] at h
        obtain ⟨a1, a2, a3, a4⟩ := ih h ho.1
        exact ⟨a1, a2, Nat.le_trans ho.2.1 a3, Nat.le_trans ho.2.2.1 a4⟩
      | none =>
        simp only [hs] at h
        cases hj : zjp I i st with
        | some q =>
          obtain ⟨i2, st2⟩ := q
          simp only [hj] at h
          exact ih h ⟨hg.1, zjp_ok hj hg.2.1, hg.2.2⟩
        | none =>
          simp only [hj] at h
          cases hr : zrt (zM j).2.2 I st with
          | some r' =>
            simp only [hr] at h
            cases h
            exact ⟨zrt_ok hr hg.2.1, hg.2.2, Nat.le_refl _, Nat.le_refl _⟩
          | none =>
            simp only [hr] at h
            cases hv : zsite I with
            | none => simp [hv] at h
            | some v =>
              cases d with
              | zero => simp [hv] at h
              | succ d =>
                simp only [hv] at h
                split at h
                · cases ht : ztg S v (st.take (zV v).1).reverse with
                  | none => simp [ht] at h
                  | some j1 =>
                    simp only [ht] at h
                    split at h
                    · cases hc : zex f d j1 0 (zent (st.take (zV v).1).reverse (zM j1).1) [] S R mi ml with
                      | none => simp [hc] at h
                      | some q =>
                        obtain ⟨r2, S2, R2, mi2, ml2⟩ := q
                        rw [hc] at h
                        have hA : ∀ w ∈ (st.take (zV v).1).reverse, zok S.length w := fun w hw => hg.2.1 w (List.mem_of_mem_take (List.mem_reverse.mp hw))
                        obtain ⟨b1, b2, b3, b4⟩ := ih hc ⟨zent_ok hA, (fun w hw => absurd hw List.not_mem_nil), hg.2.2⟩
                        have hu := zgd_up hg b3
                        have hg2 : zgd9 S2.length L (r2.toList ++ st.drop (zV v).1) R2 := by
                          refine ⟨hu.1, fun w hw => ?_, b2⟩
                          rcases List.mem_append.mp hw with hw | hw
                          · exact b1 w (by cases r2 <;> simp_all)
                          · exact hu.2.1 w (List.mem_of_mem_drop hw)
                        obtain ⟨a1, a2, a3, a4⟩ := ih h hg2
                        exact ⟨a1, a2, Nat.le_trans b3 a3, Nat.le_trans b4 a4⟩
                    · simp at h
                · simp at h
