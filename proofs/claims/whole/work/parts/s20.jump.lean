-- @after: 00.privs 01.names 02.code 03.tabs 04.mach 05.rows 06.facts 07.check 09.world 10.inrange 11.step 12.step2 13.step3 14.step4 15.step5 16.mna 17.alloc 18.more 19.sim
/-! the jumps -/
theorem zofInt {x : Int32} {n : Int} (h : -100000 < n ∧ n < 100000) : x = Int32.ofInt n ↔ x.toInt = n := by
  constructor
  · rintro rfl
    rw [Int32.toInt_ofInt]
    have hsz : ((Int32.size : Nat) : Int) = 4294967296 := rfl
    exact Int.bmod_eq_of_le (by omega) (by omega)
  · rintro rfl
    simp
theorem zsw_find {x : Int32} {d : Int} : ∀ {l : List (Int × Int)}, (∀ q ∈ l, -100000 < q.1 ∧ q.1 < 100000) → zsw x d l = match l.find? (fun q => q.1 == x.toInt) with
    | some q => q.2.toNat
    | none => d.toNat
  | [], _ => rfl
  | q :: l, h => by
    unfold zsw
    rw [List.find?_cons]
    by_cases e : x = Int32.ofInt q.1
    · rw [if_pos e]
      have : (q.1 == x.toInt) = true := by
        rw [(zofInt (h q List.mem_cons_self)).mp e]; simp
      rw [this]
    · rw [if_neg e]
      have : (q.1 == x.toInt) = false := by
        rw [beq_eq_false_iff_ne]
        intro z; exact e ((zofInt (h q List.mem_cons_self)).mpr z.symm)
      rw [this]
      exact zsw_find (fun q hq => h q (List.mem_cons_of_mem _ hq))
theorem zsw_two {C : List (Nat × Instr × Nat)} {x : Int32} {d d2 : Int} {pc : Nat} : ∀ (l l2 : List (Int × Int)), l.length = l2.length → zto C d (pc + d2) = true → (∀ (k : Nat) (q o : Int × Int), l[k]? = some q → l2[k]? = some o → q.1 = o.1 ∧ zto C q.2 (pc + o.2) = true ∧ -100000 < q.1 ∧ q.1 < 100000) →
    ∃ pc1 r1 l1, C[zsw x d l]? = some (pc1, r1, l1) ∧ ((pc1 : Nat) : Int) = pc + lookupswitch.offset l2 d2 x.toInt
  | [], [], _, hd, _ => by
    obtain ⟨pc1, r1, l1, t1, t2⟩ := zto_at hd
    exact ⟨pc1, r1, l1, t1, t2⟩
  | [], _ :: _, h, _, _ => by simp at h
  | _ :: _, [], h, _, _ => by simp at h
  | q :: l, (a, o) :: l2, h, hd, hk => by
    obtain ⟨e1, e2, e3⟩ := hk 0 q (a, o) rfl rfl
    have e1 : q.1 = a := e1
    rw [lookupswitch.offset_cons]
    unfold zsw
    by_cases e : x = Int32.ofInt q.1
    · rw [if_pos e, if_pos (by rw [← e1]; exact ((zofInt e3).mp e).symm)]
      obtain ⟨pc1, r1, l1, t1, t2⟩ := zto_at e2
      exact ⟨pc1, r1, l1, t1, t2⟩
    · rw [if_neg e, if_neg (fun z => e ((zofInt e3).mpr (by rw [← z]; exact e1.symm)))]
      exact zsw_two l l2 (by simpa using h) hd (fun k q o h1 h2 => hk (k + 1) q o (by simpa using h1) (by simpa using h2))
section JUMP
variable {p : Program} {l : Launch} {e : Env} {Rm : Room} {s : State} {m : MethodId} {args : Array Value} {below : List Frame} {meth : Method} {c : Code} {H : Heap} {locs : List Loc} {cells slots : Nat} {Q : State → Prop}
variable {D : va_G} {cA sp ad : Nat → Nat} {A : Nat → Prop} {j i i1 pc len : Nat} {raw I : Instr} {L st st1 : List Value} {ls : Array Slot}
theorem zjp_row (hF : zFx j p s m args meth c D cA sp A) (hck : zck (zM j).2.1 (zR j) i pc raw len I = true) (hdec : len ≠ 0 → decode (zY j).2.1 pc = .ok (raw, len)) (hs : zjp I i st = some (i1, st1))
    (kk : ∀ pc1 raw1 len1, (zR j)[i1]? = some (pc1, raw1, len1) → W p l e Rm s m args below meth c H locs cells slots Q (F0 m pc1 ls (st1.map (zvv ad sp)))) : W p l e Rm s m args below meth c H locs cells slots Q (F0 m pc ls (st.map (zvv ad sp))) := by
  obtain ⟨hx, hb, -⟩ := id hF
  cases I
  case goto t =>
    simp only [zjp, Option.some.injEq, Prod.mk.injEq] at hs
    obtain ⟨rfl, rfl⟩ := hs
    cases raw <;> simp only [zck, Bool.and_eq_true, beq_iff_eq, Bool.false_eq_true] at hck
    obtain ⟨rfl, ht⟩ := hck
    obtain ⟨pc1, r1, l1, h1, h2⟩ := zto_at ht
    exact lv_goto hx hb (hdec (by decide)) h2.symm (kk _ _ _ h1)
  case ifCond c t =>
    simp only [zjp] at hs
    split at hs
    · rename_i x st'
      simp only [Option.some.injEq, Prod.mk.injEq] at hs
      obtain ⟨rfl, rfl⟩ := hs
      cases raw <;> simp only [zck, Bool.and_eq_true, beq_iff_eq, Bool.false_eq_true, decide_eq_true_eq] at hck
      obtain ⟨⟨⟨rfl, rfl⟩, ht⟩, hn⟩ := hck
      obtain ⟨pc1, r1, l1, h1, h2⟩ := zto_at ht
      obtain ⟨r2, l2, h3⟩ := znx_at hn
      rename_i c1 off
      have k1 : zcond c1 x 0 → W p l e Rm s m args below meth c H locs cells slots Q (F0 m pc1 ls (st'.map (zvv ad sp))) := fun z => kk pc1 r1 l1 (by rw [if_pos ((zcondB_iff _ _ _).mpr z)]; exact h1)
      have k2 : ¬ zcond c1 x 0 → W p l e Rm s m args below meth c H locs cells slots Q (F0 m (pc + 3) ls (st'.map (zvv ad sp))) := fun z => kk (pc + 3) r2 l2 (by rw [if_neg (fun y => z ((zcondB_iff _ _ _).mp y))]; exact h3)
      cases c1
      · exact lv_if_eq hx hb (hdec (by decide)) h2.symm k1 k2
      · exact lv_if_ne hx hb (hdec (by decide)) h2.symm k1 (fun z => k2 (fun y => y z))
      · exact lv_if_lt hx hb (hdec (by decide)) h2.symm k1 k2
      · exact lv_if_ge hx hb (hdec (by decide)) h2.symm k1 k2
      · exact lv_if_gt hx hb (hdec (by decide)) h2.symm k1 k2
      · exact lv_if_le hx hb (hdec (by decide)) h2.symm k1 k2
    · cases hs
  case if_icmp c t =>
    simp only [zjp] at hs
    split at hs
    · rename_i y x st'
      simp only [Option.some.injEq, Prod.mk.injEq] at hs
      obtain ⟨rfl, rfl⟩ := hs
      cases raw <;> simp only [zck, Bool.and_eq_true, beq_iff_eq, Bool.false_eq_true, decide_eq_true_eq] at hck
      obtain ⟨⟨⟨rfl, rfl⟩, ht⟩, hn⟩ := hck
      obtain ⟨pc1, r1, l1, h1, h2⟩ := zto_at ht
      obtain ⟨r2, l2, h3⟩ := znx_at hn
      rename_i c1 off
      have k1 : zcond c1 x y → W p l e Rm s m args below meth c H locs cells slots Q (F0 m pc1 ls (st'.map (zvv ad sp))) := fun z => kk pc1 r1 l1 (by rw [if_pos ((zcondB_iff _ _ _).mpr z)]; exact h1)
      have k2 : ¬ zcond c1 x y → W p l e Rm s m args below meth c H locs cells slots Q (F0 m (pc + 3) ls (st'.map (zvv ad sp))) := fun z => kk (pc + 3) r2 l2 (by rw [if_neg (fun y => z ((zcondB_iff _ _ _).mp y))]; exact h3)
      cases c1
      · exact lv_icmp_eq hx hb (hdec (by decide)) h2.symm k1 k2
      · exact lv_icmp_ne hx hb (hdec (by decide)) h2.symm k1 (fun z => k2 (fun y => y z))
      · exact lv_icmp_lt hx hb (hdec (by decide)) h2.symm k1 k2
      · exact lv_icmp_ge hx hb (hdec (by decide)) h2.symm k1 k2
      · exact lv_icmp_gt hx hb (hdec (by decide)) h2.symm k1 k2
      · exact lv_icmp_le hx hb (hdec (by decide)) h2.symm k1 k2
    · cases hs
  case ifnull t =>
    cases raw <;> simp only [zck, Bool.and_eq_true, beq_iff_eq, Bool.false_eq_true] at hck
    obtain ⟨⟨rfl, ht⟩, hn⟩ := hck
    obtain ⟨pc1, r1, l1, h1, h2⟩ := zto_at ht
    obtain ⟨r2, l2, h3⟩ := znx_at hn
    simp only [zjp] at hs
    split at hs
    · simp only [Option.some.injEq, Prod.mk.injEq] at hs
      obtain ⟨rfl, rfl⟩ := hs
      exact lv_ifnullN hx hb (hdec (by decide)) h2.symm (kk _ _ _ h1)
    · simp only [Option.some.injEq, Prod.mk.injEq] at hs
      obtain ⟨rfl, rfl⟩ := hs
      exact lv_ifnull hx hb (hdec (by decide)) (kk _ _ _ h3)
    · cases hs
  case ifnonnull t =>
    cases raw <;> simp only [zck, Bool.and_eq_true, beq_iff_eq, Bool.false_eq_true] at hck
    obtain ⟨⟨rfl, ht⟩, hn⟩ := hck
    obtain ⟨pc1, r1, l1, h1, h2⟩ := zto_at ht
    obtain ⟨r2, l2, h3⟩ := znx_at hn
    simp only [zjp] at hs
    split at hs
    · simp only [Option.some.injEq, Prod.mk.injEq] at hs
      obtain ⟨rfl, rfl⟩ := hs
      exact lv_ifnonnullN hx hb (hdec (by decide)) (kk _ _ _ h3)
    · simp only [Option.some.injEq, Prod.mk.injEq] at hs
      obtain ⟨rfl, rfl⟩ := hs
      exact lv_ifnonnull hx hb (hdec (by decide)) h2.symm (kk _ _ _ h1)
    · cases hs
  case lookupswitch t ps =>
    simp only [zjp] at hs
    split at hs
    · rename_i x st'
      simp only [Option.some.injEq, Prod.mk.injEq] at hs
      obtain ⟨rfl, rfl⟩ := hs
      cases raw <;> simp only [zck, Bool.and_eq_true, beq_iff_eq, Bool.false_eq_true, decide_eq_true_eq] at hck
      case tableswitch d lo hi offs =>
        obtain ⟨⟨⟨⟨⟨⟨⟨h0, ht⟩, h1⟩, h2⟩, h3⟩, h4⟩, h5⟩, h6⟩ := hck
        have h0 : len ≠ 0 := by simpa using h0
        obtain ⟨pcd, rd, ld, hd1, hd2⟩ := zto_at ht
        have hk : ∀ k, k < ps.size → ∃ q o, ps[k]? = some q ∧ offs[k]? = some o ∧ q.1 = lo + k ∧ zto (zR j) q.2 (pc + o) = true := by
          intro k hk
          have := List.all_eq_true.mp h6 k (List.mem_range.mpr hk)
          split at this
          · rename_i q o e1 e2
            simp only [Bool.and_eq_true, beq_iff_eq] at this
            exact ⟨q, o, e1, e2, this.1, this.2⟩
          · cases this
        have hl : ps.toList.length = ps.size := by simp
        have hpk : ∀ (k : Nat) (q : Int × Int), ps.toList[k]? = some q → k < ps.size ∧ q.1 = lo + k := by
          intro k q hq
          have hlt : k < ps.size := by rw [← hl]; exact (List.getElem?_eq_some_iff.mp hq).1
          obtain ⟨q', o, e1, e2, e3, -⟩ := hk k hlt
          rw [Array.getElem?_toList] at hq
          rw [e1] at hq; cases hq
          exact ⟨hlt, e3⟩
        have hbd : ∀ q ∈ ps.toList, -100000 < q.1 ∧ q.1 < 100000 := by
          intro q hq
          obtain ⟨k, hk'⟩ := List.getElem?_of_mem hq
          obtain ⟨a1, a2⟩ := hpk k q hk'
          omega
        rw [zsw_find hbd] at kk
        by_cases hlo : x.toInt < lo ∨ hi < x.toInt
        · refine lv_tableOut hx hb (hdec h0) hlo hd2.symm (kk pcd rd ld ?_)
          have : ps.toList.find? (fun q => q.1 == x.toInt) = none := by
            rw [List.find?_eq_none]
            intro q hq
            obtain ⟨k, hk'⟩ := List.getElem?_of_mem hq
            obtain ⟨a1, a2⟩ := hpk k q hk'
            simp only [beq_iff_eq]
            omega
          rw [this]; exact hd1
        · have hlo1 : ¬ x.toInt < lo := fun z => hlo (Or.inl z)
          have hlo2 : ¬ hi < x.toInt := fun z => hlo (Or.inr z)
          obtain ⟨n, hn⟩ : ∃ n : Nat, x.toInt = lo + n := ⟨(x.toInt - lo).toNat, by omega⟩
          have hn2 : n < ps.size := by omega
          obtain ⟨q, o, e1, e2, e3, e4⟩ := hk n hn2
          obtain ⟨pc1, r1, l1, t1, t2⟩ := zto_at e4
          refine lv_tableIn hx hb (hdec h0) hlo1 hlo2 (by rw [show (x.toInt - lo).toNat = n by omega]; exact e2) t2.symm (kk pc1 r1 l1 ?_)
          cases hf : ps.toList.find? (fun q => q.1 == x.toInt) with
          | none =>
            rw [List.find?_eq_none] at hf
            have := hf q (List.mem_of_getElem? (by rw [Array.getElem?_toList]; exact e1))
            simp only [beq_iff_eq] at this
            omega
          | some q' =>
            have hq1 := List.find?_some hf
            have hq2 := List.mem_of_find?_eq_some hf
            obtain ⟨k, hk'⟩ := List.getElem?_of_mem hq2
            obtain ⟨a1, a2⟩ := hpk k q' hk'
            simp only [beq_iff_eq] at hq1
            have : k = n := by omega
            subst this
            rw [Array.getElem?_toList, e1] at hk'
            cases hk'
            exact t1
      case lookupswitch d qs =>
        obtain ⟨⟨⟨⟨h0, ht⟩, h1⟩, h2⟩, h6⟩ := hck
        have h0 : len ≠ 0 := by simpa using h0
        obtain ⟨pc1, r1, l1, t1, t2⟩ := zsw_two (C := zR j) (x := x) (d := t) (d2 := d) (pc := pc) ps.toList qs.toList (by simpa using h1.symm) ht (by
          intro k q o hq ho
          rw [Array.getElem?_toList] at hq ho
          have hlt : k < ps.size := (Array.getElem?_eq_some_iff.mp hq).1
          have := List.all_eq_true.mp h6 k (List.mem_range.mpr hlt)
          rw [hq, ho] at this
          simp only [Bool.and_eq_true, beq_iff_eq, decide_eq_true_eq] at this
          exact ⟨this.1.1.1, this.1.1.2, this.1.2, this.2⟩)
        exact lv_lookup hx hb (hdec h0) h2 rfl t2.symm (kk _ _ _ t1)
    · cases hs
  all_goals cases hs
end JUMP
