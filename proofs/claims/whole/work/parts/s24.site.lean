-- @after: 00.privs 01.names 02.code 03.tabs 04.mach 05.rows 06.facts 07.check 09.world 10.inrange 11.step 12.step2 13.step3 14.step4 15.step5 16.mna 17.alloc 18.more 19.sim 20.jump 21.call 22.calls 23.run
theorem ztg_mem {S : zS} {v j1 : Nat} {cargs : List Value} (h : ztg S v cargs = some j1) : ((zV v).2.1 = 0 ∧ ∃ q, (zV v).2.2 = [q] ∧ q.2 = j1) ∨ ((zV v).2.1 = 2 ∧ ∃ q y as ci n, (zV v).2.2 = [q] ∧ q.2 = j1 ∧ cargs = .ref y :: as ∧ S[y]? = some (ci, n) ∧ ci < 13) ∨ ((zV v).2.1 = 1 ∧ ∃ a as ci, cargs = a :: as ∧ zcls S a = some ci ∧ (ci, j1) ∈ (zV v).2.2) := by
  unfold ztg at h
  split at h
  · rename_i q h1 h2
    exact Or.inl ⟨h1, q, h2, Option.some.inj h⟩
  · rename_i q h1 h2
    split at h
    · split at h
      · split at h
        · rename_i hS hc
          exact Or.inr (Or.inl ⟨h1, q, _, _, _, _, h2, Option.some.inj h, rfl, hS, hc⟩)
        · cases h
      · cases h
    · cases h
  · rename_i h1
    split at h
    · split at h
      · rename_i a as ci hci
        refine Or.inr (Or.inr ⟨h1, _, _, _, rfl, hci, ?_⟩)
        generalize (zV v).2.2 = lst at h
        induction lst with
        | nil => cases h
        | cons w lst ih =>
          obtain ⟨w1, w2⟩ := w
          rw [List.lookup_cons] at h
          split at h
          · rename_i hw
            have e1 : ci = w1 := by simpa using hw
            rw [← Option.some.inj h, e1]
            exact List.mem_cons_self
          · exact List.mem_cons_of_mem _ (ih h)
      · cases h
    · cases h
  · cases h
theorem zparm {n : Nat} {desc : String} (h : ((parseMethodDescriptor desc).map (fun d => d.parameters.length)).getD 99 = n) (h99 : n ≠ 99) : (parseMethodDescriptor desc).map (fun d => d.parameters.length) = some n := by
  cases hp : parseMethodDescriptor desc with
  | none => rw [hp] at h; exact absurd h.symm h99
  | some d => rw [hp] at h; exact congrArg some h
theorem zparm2 {n : Nat} {desc : String} (h : (parseMethodDescriptor desc).map (fun d => d.parameters.length) = some n) : ∀ sig, parseMethodDescriptor desc = some sig → n = sig.parameters.length := by
  intro sig hs
  rw [hs] at h
  exact (Option.some.inj h).symm
theorem z_sup1 : Cond.superclass "OnlyStrangers$Need" "OnlyStrangers$Plan" ∈ zwT := zmem_wT (zhas_mem (by decide +kernel)) rfl
theorem z_sup2 : Cond.superclass "OnlyStrangers$Full" "OnlyStrangers$Plan" ∈ zwT := zmem_wT (zhas_mem (by decide +kernel)) rfl
theorem z_sup3 : Cond.superclass "OnlyStrangers$Lot" "OnlyStrangers$Plan" ∈ zwT := zmem_wT (zhas_mem (by decide +kernel)) rfl
section SITE
variable {p : Program} {l : Launch} {e : Env} {Rm : Room} {s : State} {m : MethodId} {args : Array Value} {below : List Frame} {meth : Method} {c : Code} {H : Heap} {locs : List Loc} {cells slots : Nat} {Q : State → Prop}
variable {D : va_G} {cA sp ad : Nat → Nat} {A : Nat → Prop} {j i pc len : Nat} {raw I : Instr} {L st : List Value} {S S1 : zS} {R R1 : zR0} {mi mi1 : zI} {ml ml1 : zJ} {ls : Array Slot} {r : Option Value}
/-- the receiver's cell -/
theorem zrecv {ci x : Nat} {a : Value} (hF : zFx j p s m args meth c D cA sp A) (hrel : zRel D cA sp ad A s S R mi ml H locs L ls) (ha : zcls S a = some ci) (hci : ci = 97 ∨ ci < 13) : ∃ b, zvv ad sp a = .ref b ∧ (∃ cell : Cell, H[b]? = some cell ∧ cell.vm.isStatics = false ∧ s.vm.findClass (if ci = 97 then "java/lang/String" else zOwn ci) = some cell.cls) ∧ (ci < 13 → ∃ cC, ClassAt s (zOwn ci) cC) := by
  obtain ⟨hx, hb, -, hr, ho, hts, hlocks, hnm, hK, hA, hE⟩ := id hF
  cases a with
  | ref y =>
    refine ⟨ad y, rfl, ?_⟩
    unfold zcls at ha
    dsimp only at ha
    cases hy : S[y]? with
    | none => rw [hy] at ha; cases ha
    | some q =>
      obtain ⟨k, n⟩ := q
      rw [hy] at ha
      have e1 : k = ci := Option.some.inj ha
      subst e1
      rcases hci with rfl | hci
      · have hw := zws_at (ad := ad) (cA := cA) (R := R) (mi := mi) (ml := ml) hy
        have hz : zce ad cA R mi ml y (97, n) = .inr (97, (List.range n).map (fun k => zsv9 ad R mi ml y k (zyy 97 k))) := rfl
        rw [hz] at hw
        obtain ⟨r9, h9, -⟩ := hrel.1 y _ hw
        exact absurd h9 (by simp)
      · have hw := zws_at (ad := ad) (cA := cA) (R := R) (mi := mi) (ml := ml) hy
        rw [zce_obj hci] at hw
        obtain ⟨C, T, N, hcl⟩ : ∃ C T N, zcl[k]? = some (C, T, N) := by
          have : k < zcl.length := hci
          exact ⟨_, _, _, List.getElem?_eq_getElem this⟩
        have hC := (zuT hcl).2.2.2
        have h97 : k ≠ 97 := by omega
        rw [if_neg h97]
        refine ⟨?_, fun _ => ?_⟩
        · have := va_recv hK hrel.1 hcl hw
          rw [hC] at this
          exact this
        · have := (hK.1 k _ hcl).2
          rw [hC] at this
          exact ⟨_, this⟩
  | retAddr n =>
    unfold zcls at ha
    dsimp only at ha
    split at ha
    · rename_i hn
      cases ha
      obtain ⟨k, hk, rfl⟩ : ∃ k, k < 7 ∧ n = 10 + k := ⟨n - 10, by omega, by omega⟩
      exact ⟨_, zsq_ne (by omega), vk_recv (i := k) hE.2.2.2.2.2 hk hrel.2.2.1, fun h => absurd h (by decide)⟩
    · cases ha
  | int x => cases ha
  | long x => cases ha
  | float x => cases ha
  | double x => cases ha
  | null => cases ha
theorem zcall_run {v j1 d mc ms mc1 ms1 : Nat} {cargs rest : List Value} {a1 : Nat → Nat} (hF : zFx j p s m args meth c D cA sp A) (hrel : zRel D cA sp ad A s S R mi ml H locs L ls) (hls : ls.size = (zM j).1) (hI : zsite I = some v) (hck : zck (zM j).2.1 (zR j) i pc raw len I = true) (hdec : len ≠ 0 → decode (zY j).2.1 pc = .ok (raw, len)) (hchv : ∀ v, v < 212 → zchv v = true) (hchm : ∀ j, j < 258 → zchm j = true) (hown : zOwn (zM j).2.1 = (zY j).1.cls)
    (ht : ztg S v cargs = some j1) (hn : (zV v).1 = cargs.length) (hRm : Rm = zrm (d + 1) mc ms)
    (hM : ∀ hj1 : j1 < 258, Met l (zY j1).1 (zwj j1) (zrm d mc1 ms1) (va_Pc (cargs.map (zvv ad sp)) (zPre D cA sp ad S R mi ml H.size)) (zQc r D cA sp ad S.length (va_A (zws ad cA S R mi ml) H.size) S1 R1 mi1 ml1) mc1 ms1 (va_A (zws ad cA S R mi ml) H.size))
    (hcat : (rest.map fun v => v.category).sum ≤ 8) (hf : cells + mc1 ≤ mc ∧ slots + ms1 ≤ ms) :
    znx (zR j) (i + 1) (pc + 3) = true ∧ ∃ a, va_Run p l e Rm s m args below meth c H locs cells slots mc1 ms1 (F0 m pc ls ((cargs.reverse ++ rest).map (zvv ad sp))) (rest.map (zvv ad sp)) (zQc r D cA sp ad S.length (va_A (zws ad cA S R mi ml) H.size) S1 R1 mi1 ml1 a) (va_A (zws ad cA S R mi ml) H.size) := by
  obtain ⟨hx, hb, hml, hr, ho, hts, hlocks, hnm, hK, hA, hE⟩ := id hF
  subst hRm
  have hq : ∃ q, q ∈ (zV v).2.2 ∧ q.2 = j1 ∧ (((zV v).2.1 = 0) ∨ ((zV v).2.1 = 2 ∧ ∃ y as ci n, cargs = .ref y :: as ∧ S[y]? = some (ci, n) ∧ ci < 13) ∨ ((zV v).2.1 = 1 ∧ ∃ b as, cargs = b :: as ∧ zcls S b = some q.1)) := by
    rcases ztg_mem ht with ⟨h0, q, h1, h2⟩ | ⟨h0, q, y, as, ci, n, h1, h2, h3⟩ | ⟨h0, b, as, ci, h1, h2, h3⟩
    · exact ⟨q, by rw [h1]; exact List.mem_cons_self, h2, Or.inl h0⟩
    · exact ⟨q, by rw [h1]; exact List.mem_cons_self, h2, Or.inr (Or.inl ⟨h0, y, as, ci, n, h3⟩)⟩
    · exact ⟨_, h3, rfl, Or.inr (Or.inr ⟨h0, b, as, h1, h2⟩)⟩
  obtain ⟨⟨ci, j2⟩, hq1, hq2, hq3⟩ := hq
  have hq2 : j2 = j1 := hq2
  subst hq2
  have hst : (cargs.reverse ++ rest).map (zvv ad sp) = (cargs.map (zvv ad sp)).reverse ++ rest.map (zvv ad sp) := by rw [List.map_append, List.map_reverse]
  have hcat' : 2 * (F0 m pc ls ((cargs.reverse ++ rest).map (zvv ad sp))).monitorRoom + ((rest.map (zvv ad sp)).map fun v => v.category).sum ≤ 8 := by
    rw [zcat_map]; show 2 * 0 + _ ≤ 8; omega
  have hv212 : v < 212 := by
    cases I <;> simp only [zsite, Option.some.injEq] at hI <;> first | (cases hI; done) | skip
    all_goals
      subst hI
      simp only [zck, Bool.and_eq_true, decide_eq_true_eq] at hck
      exact hck.1.2
  obtain ⟨hvt, hwords, hmw⟩ := zsite_words (hchv v hv212) hq1
  have hfix : CallFix p m c (zY j).2.1 (zM j).1 s args zwT (zY j).1.cls := ⟨hx, hb, hml, ho, hts⟩
  have hstt : (cargs.reverse ++ rest).map (zvv ad sp) = (cargs.map (zvv ad sp)).reverse ++ rest.map (zvv ad sp) := hst
  unfold zvt at hvt
  unfold zsw_ at hwords
  unfold zmw at hmw
  generalize hz : zVI v = z at hvt hwords hmw
  obtain ⟨own, idx, x, host, k, on, pl⟩ := z
  dsimp only at hvt hwords hmw
  simp only [Bool.and_eq_true, decide_eq_true_eq, beq_iff_eq] at hvt
  obtain ⟨⟨hj1, hparm⟩, hkind⟩ := hvt
  have hm1 := hchm j2 hj1
  obtain ⟨g1, g2, g3, g4, g5, g6⟩ := zwj_good hm1
  have hM := hM hj1
  have hRoom : (zrm d mc1 ms1).frames + 1 ≤ (zrm (d + 1) mc ms).frames ∧ 8 + ((zM j2).1 + 11) + (zrm d mc1 ms1).locals ≤ (zrm (d + 1) mc ms).locals := by
    refine ⟨Nat.le_refl _, ?_⟩
    show 8 + ((zM j2).1 + 11) + 100 * (d + 1) ≤ 100 * (d + 1 + 1)
    omega
  have hmode : (k = 0 ∨ k = 1) ∧ (zV v).2.1 = 0 ∨ (k = 2 ∨ k = 3 ∨ k = 7) ∧ (zV v).2.1 = 2 ∨ (k = 4 ∨ k = 5 ∨ k = 6) ∧ (zV v).2.1 = 1 := by
    have h9 := hchv v hv212
    unfold zchv at h9
    rw [hz] at h9
    simp only [Bool.and_eq_true] at h9
    have h9 := h9.2
    split at h9 <;> first | (cases h9; done) | skip
    all_goals first
      | exact Or.inl ⟨by simp, by assumption⟩
      | exact Or.inr (Or.inl ⟨by simp, by assumption⟩)
      | exact Or.inr (Or.inr ⟨by simp, by assumption⟩)
      | (exfalso; simp_all)
  have hins : own = (zM j).2.1 ∧ znx (zR j) (i + 1) (pc + 3) = true ∧ ((k = 0 ∨ k = 1) ∧ decode (zY j).2.1 pc = .ok (.invokestatic idx, 3) ∨ (k = 2 ∨ k = 3 ∨ k = 7) ∧ decode (zY j).2.1 pc = .ok (.invokespecial idx, 3) ∨ (k = 4 ∨ k = 5 ∨ k = 6) ∧ decode (zY j).2.1 pc = .ok (.invokevirtual idx, 3)) := by
    cases I <;> simp only [zsite, Option.some.injEq] at hI <;> first | (cases hI; done) | skip
    all_goals
      subst hI
      simp only [zck, Bool.and_eq_true, decide_eq_true_eq, beq_iff_eq, hz] at hck
      obtain ⟨⟨⟨h1, h2⟩, -⟩, h3⟩ := hck
      obtain ⟨rfl, rfl, hn⟩ := zsame_spec h1
      have hd := hdec (by decide)
      refine ⟨h2, hn, ?_⟩
      simp at h3
      first
        | exact Or.inl ⟨h3, hd⟩
        | exact Or.inr (Or.inl ⟨h3, hd⟩)
        | exact Or.inr (Or.inr ⟨h3, hd⟩)
  obtain ⟨hown2, hnx, hins⟩ := hins
  refine ⟨hnx, ?_⟩
  have hown' : zOwn own = (zY j).1.cls := by rw [hown2]; exact hown
  rw [hst]
  have hb' : ∀ w, w ∈ lw_tbl → goodWord w = true → w.before args s = true := fun w h1 h2 => hts w (zmem_wT h1 h2)
  have hsz : (F0 m pc ls ((cargs.map (zvv ad sp)).reverse ++ rest.map (zvv ad sp))).locals.size = (zM j).1 := hls
  have hcat2 : 2 * (F0 m pc ls ((cargs.map (zvv ad sp)).reverse ++ rest.map (zvv ad sp))).monitorRoom + ((rest.map (zvv ad sp)).map fun v => v.category).sum ≤ 8 := by
    rw [zcat_map]; show 2 * 0 + _ ≤ 8; omega
  have hpre := zPre_at (As := cargs.map (zvv ad sp)) hF hrel
  have hini := hts _ g2
  have h99 : cargs.length ≤ 20 := by
    have h9 := hchv v hv212
    unfold zchv at h9
    simp only [Bool.and_eq_true, decide_eq_true_eq] at h9
    rw [← hn]; exact h9.1.1.1
  have hfit : cells + mc1 ≤ (zrm (d + 1) mc ms).cells ∧ slots + ms1 ≤ (zrm (d + 1) mc ms).slots := hf
  have hinst : ∀ (bb : Value) (as : List Value) (b0 : Nat), cargs = bb :: as → zvv ad sp bb = .ref b0 → cargs.map (zvv ad sp) = .ref b0 :: as.map (zvv ad sp) ∧ (cargs.map (zvv ad sp)).reverse ++ rest.map (zvv ad sp) = (as.map (zvv ad sp)).reverse ++ .ref b0 :: rest.map (zvv ad sp) := by
    intro bb as b0 h1 h2
    subst h1
    rw [List.map_cons, h2]
    refine ⟨rfl, ?_⟩
    rw [List.reverse_cons, List.append_assoc]; rfl
  rcases hins with ⟨hk, hd⟩ | ⟨hk, hd⟩ | ⟨hk, hd⟩
  · -- static
    rcases hk with rfl | rfl
    · simp only [Bool.and_eq_true, decide_eq_true_eq, beq_iff_eq] at hwords hkind
      obtain ⟨⟨he, hh⟩, -⟩ := hkind
      simp only [hh, if_true] at hmw
      subst he
      rw [hown'] at hwords hmw
      have hl := hb' _ hmw rfl
      have hs := hb' _ (hwords _ (List.mem_cons_of_mem _ List.mem_cons_self)) rfl
      have hp := zparm (n := cargs.length) (desc := (zY j2).1.desc) (by rw [hn] at hparm; simpa using hparm.symm) (by omega)
      exact ⟨_, va_runS hfix hM ⟨callB_of cargs.length hts g1 rfl rfl rfl hini hl ⟨g4.1, g4.2, hp⟩ hRoom, hs⟩ ⟨zPre_blind, hpre⟩ rfl (by simp) hsz rfl hcat2 hd hfit⟩
    · simp only [Bool.and_eq_true, decide_eq_true_eq, beq_iff_eq] at hwords hkind
      obtain ⟨⟨he, hh⟩, -⟩ := hkind
      simp only [hh, if_false] at hmw
      subst he
      rw [hown'] at hmw
      have hl : va_Nw (.methodLinkNest (zY j).1.cls idx (zY j2).1 host) s := hE.1.1 _ (zmem_wN hmw rfl)
      have hs := hb' _ (hwords _ List.mem_cons_self) rfl
      have hp := zparm (n := cargs.length) (desc := (zY j2).1.desc) (by rw [hn] at hparm; simpa using hparm.symm) (by omega)
      exact ⟨_, va_runSN hfix hM ⟨va_cnB cargs.length hts g1 rfl rfl rfl hl hini ⟨g4.1, g4.2, hp⟩ hRoom, hs, trivial⟩ ⟨zPre_blind, hpre⟩ rfl (by simp) hsz rfl hcat2 hd hfit⟩
  · -- special
    have hm2 : (zV v).2.1 = 2 := by
      rcases hmode with ⟨h1, -⟩ | ⟨-, h2⟩ | ⟨h1, -⟩
      · omega
      · exact h2
      · omega
    obtain ⟨y, as, ci', n', hcg, hSy, hci'⟩ : ∃ y as ci n, cargs = .ref y :: as ∧ S[y]? = some (ci, n) ∧ ci < 13 := by
      rcases hq3 with h | ⟨-, h⟩ | ⟨h, -⟩
      · omega
      · exact h
      · omega
    obtain ⟨b0, hb0, hcell, hat⟩ := zrecv (ci := ci') (x := 0) (a := .ref y) hF hrel (by unfold zcls; dsimp only; rw [hSy]; rfl) (Or.inr hci')
    obtain ⟨e1, e2⟩ := hinst _ _ _ hcg hb0
    rw [e1] at hM hpre
    rw [e2]
    have hlen : as.length + 1 = cargs.length := by rw [hcg]; rfl
    have hsz' : (F0 m pc ls ((as.map (zvv ad sp)).reverse ++ .ref b0 :: rest.map (zvv ad sp))).locals.size = (zM j).1 := hls
    have hcat3 : 2 * (F0 m pc ls ((as.map (zvv ad sp)).reverse ++ .ref b0 :: rest.map (zvv ad sp))).monitorRoom + ((rest.map (zvv ad sp)).map fun v => v.category).sum ≤ 8 := by
      rw [zcat_map]; show 2 * 0 + _ ≤ 8; omega
    have h13 : ci' ≠ 97 := by omega
    rw [if_neg h13] at hcell
    rcases hk with rfl | rfl | rfl
    · simp only [Bool.and_eq_true, decide_eq_true_eq, beq_iff_eq] at hwords hkind
      obtain ⟨⟨⟨⟨he, hh⟩, hname⟩, hret⟩, -⟩ := hkind
      simp only [hh, if_true] at hmw
      subst he
      rw [hown'] at hwords hmw
      have hl := hb' _ hmw rfl
      have hi := hb' _ (hwords _ (List.mem_cons_of_mem _ List.mem_cons_self)) rfl
      have hp := zparm (n := as.length) (desc := (zY j2).1.desc) (by rw [hn] at hparm; simp at hparm; omega) (by omega)
      have hw : zwj j2 = Cond.code (zY j2).1 (zY j2).2.1 (zM j2).1 none :: zwT := by unfold zwj; rw [hret]
      exact ⟨_, va_runI hfix hM ⟨callB_of as.length hts g1 hw rfl rfl hini hl ⟨g4.1, g4.2, hp⟩ hRoom, hname, hi⟩ ⟨zPre_blind, hpre⟩ rfl (by simp) hsz' rfl hcat3 hd hfit⟩
    · simp only [Bool.and_eq_true, decide_eq_true_eq, beq_iff_eq] at hwords hkind
      obtain ⟨⟨⟨⟨he, hh⟩, hname⟩, hret⟩, -⟩ := hkind
      simp only [hh, if_false] at hmw
      subst he
      rw [hown'] at hmw
      have hl : va_Nw (.methodLinkNest (zY j).1.cls idx (zY j2).1 host) s := hE.1.1 _ (zmem_wN hmw rfl)
      have hi := hb' _ (hwords _ List.mem_cons_self) rfl
      have hp := zparm (n := as.length) (desc := (zY j2).1.desc) (by rw [hn] at hparm; simp at hparm; omega) (by omega)
      have hw : zwj j2 = Cond.code (zY j2).1 (zY j2).2.1 (zM j2).1 none :: zwT := by unfold zwj; rw [hret]
      exact ⟨_, va_runIN hfix hM ⟨va_cnB as.length hts g1 hw rfl rfl hl hini ⟨g4.1, g4.2, hp⟩ hRoom, hname, hi⟩ ⟨zPre_blind, hpre⟩ rfl (by simp) hsz' rfl hcat3 hd hfit⟩
    · simp only [Bool.and_eq_true, decide_eq_true_eq, beq_iff_eq] at hwords hkind
      obtain ⟨⟨⟨⟨hh, -⟩, he⟩, hname⟩, hup⟩ := hkind
      simp only [hh, if_true] at hmw
      rw [hown'] at hwords hmw
      have hl := hb' _ hmw rfl
      have hsm := hb' _ (hwords _ (List.mem_cons_of_mem _ List.mem_cons_self)) rfl
      have hsu := hb' _ (hwords _ (List.mem_cons_of_mem _ (List.mem_cons_of_mem _ List.mem_cons_self))) rfl
      have hi := hb' _ (hwords _ (List.mem_cons_of_mem _ (List.mem_cons_of_mem _ (List.mem_cons_of_mem _ List.mem_cons_self)))) rfl
      have hp := zparm (n := as.length) (desc := (zY j2).1.desc) (by rw [hn] at hparm; simp at hparm; omega) (by omega)
      have hup' : zVO v = x.cls ∨ (Cond.superclass x.cls (zVO v)).before args s = true := by
        simp only [Bool.or_eq_true, decide_eq_true_eq] at hup
        rcases hup with h | ⟨h1, h2⟩
        · exact Or.inl h
        · refine Or.inr ?_
          rw [h1]
          rcases h2 with h2 | h2 | h2 <;> rw [h2]
          · exact hts _ z_sup1
          · exact hts _ z_sup2
          · exact hts _ z_sup3
      obtain ⟨cC, hat⟩ := hat hci'
      exact ⟨_, zrunSU hat hfix hM he rfl rfl hRoom.1 hRoom.2 (pay_in hts g1) List.mem_cons_self hl hsm hsu hup' hi hini (hts _ (g1 _ List.mem_cons_self).1) hname (zparm2 hp) ⟨zPre_blind, hcell, hpre⟩ rfl (by simp) hsz' rfl hcat3 hd hfit⟩
  · -- virtual
    have hm1 : (zV v).2.1 = 1 := by
      rcases hmode with ⟨h1, -⟩ | ⟨h1, -⟩ | ⟨-, h2⟩
      · omega
      · omega
      · exact h2
    obtain ⟨bb, as, hcg, hbb⟩ : ∃ b as, cargs = b :: as ∧ zcls S b = some ci := by
      rcases hq3 with h | ⟨h, -⟩ | ⟨-, h⟩
      · omega
      · omega
      · exact h
    have hci : ci = 97 ∨ ci < 13 := by
      rcases hk with rfl | rfl | rfl <;> simp only [Bool.or_eq_true, Bool.and_eq_true, beq_iff_eq, decide_eq_true_eq] at hkind
      · rcases hkind.2 with h | h
        · exact Or.inl h.1
        · exact Or.inr h.1
      · exact Or.inr hkind.1.2
      · exact Or.inr hkind.1.1.1.1.2
    obtain ⟨b0, hb0, hcell, hat⟩ := zrecv (x := 0) hF hrel hbb hci
    obtain ⟨e1, e2⟩ := hinst _ _ _ hcg hb0
    rw [e1] at hM hpre
    rw [e2]
    have hlen : as.length + 1 = cargs.length := by rw [hcg]; rfl
    have hsz' : (F0 m pc ls ((as.map (zvv ad sp)).reverse ++ .ref b0 :: rest.map (zvv ad sp))).locals.size = (zM j).1 := hls
    have hcat3 : 2 * (F0 m pc ls ((as.map (zvv ad sp)).reverse ++ .ref b0 :: rest.map (zvv ad sp))).monitorRoom + ((rest.map (zvv ad sp)).map fun v => v.category).sum ≤ 8 := by
      rw [zcat_map]; show 2 * 0 + _ ≤ 8; omega
    rcases hk with rfl | rfl | rfl
    · simp only [Bool.and_eq_true, decide_eq_true_eq, beq_iff_eq] at hwords hkind
      obtain ⟨⟨he, hh⟩, hcls⟩ := hkind
      simp only [hh, if_true] at hmw
      subst he
      rw [hown'] at hwords hmw
      have hl := hb' _ hmw rfl
      have hi := hb' _ (hwords _ (List.mem_cons_of_mem _ List.mem_cons_self)) rfl
      have hse := hb' _ (hwords _ (List.mem_cons_of_mem _ (List.mem_cons_of_mem _ List.mem_cons_self))) rfl
      have hp := zparm (n := as.length) (desc := (zY j2).1.desc) (by rw [hn] at hparm; simp at hparm; omega) (by omega)
      have hcl : (if ci = 97 then "java/lang/String" else zOwn ci) = (zY j2).1.cls := by
        simp only [Bool.or_eq_true, Bool.and_eq_true, beq_iff_eq, decide_eq_true_eq] at hcls
        rcases hcls with ⟨h1, h2⟩ | ⟨h1, h2⟩
        · rw [if_pos h1, h2]
        · rw [if_neg (by omega), h2]
      rw [hcl] at hcell
      exact ⟨_, va_runV hfix hM ⟨callB_of as.length hts g1 rfl rfl rfl hini hl ⟨g4.1, g4.2, hp⟩ hRoom, hi, hse⟩ ⟨zPre_blind, hcell, hpre⟩ rfl (by simp) hsz' rfl hcat3 hd hfit⟩
    · simp only [Bool.and_eq_true, decide_eq_true_eq, beq_iff_eq] at hwords hkind
      obtain ⟨⟨⟨he, hh⟩, h13⟩, hcls⟩ := hkind
      simp only [hh, if_false] at hmw
      subst he
      rw [hown'] at hmw
      have hl : va_Nw (.methodLinkNest (zY j).1.cls idx (zY j2).1 host) s := hE.1.1 _ (zmem_wN hmw rfl)
      have hi := hb' _ (hwords _ List.mem_cons_self) rfl
      have hse := hb' _ (hwords _ (List.mem_cons_of_mem _ List.mem_cons_self)) rfl
      have hp := zparm (n := as.length) (desc := (zY j2).1.desc) (by rw [hn] at hparm; simp at hparm; omega) (by omega)
      rw [if_neg (by omega), ← hcls] at hcell
      exact ⟨_, va_runVN hfix hM ⟨va_cnB as.length hts g1 rfl rfl rfl hl hini ⟨g4.1, g4.2, hp⟩ hRoom, hi, hse⟩ ⟨zPre_blind, hcell, hpre⟩ rfl (by simp) hsz' rfl hcat3 hd hfit⟩
    · simp only [Bool.and_eq_true, decide_eq_true_eq, beq_iff_eq] at hwords hkind
      obtain ⟨⟨⟨⟨⟨⟨⟨hjo, hyo⟩, hh⟩, h13⟩, hnm2⟩, hde⟩, ho1⟩, ho2⟩ := hkind
      simp only [hh, if_true] at hmw
      rw [hown'] at hwords hmw
      have hl := hb' _ hmw rfl
      have hsm := hb' _ (hwords _ (List.mem_cons_of_mem _ List.mem_cons_self)) rfl
      have hse := hb' _ (hwords _ (List.mem_cons_of_mem _ (List.mem_cons_of_mem _ List.mem_cons_self))) rfl
      have hi := hb' _ (hwords _ (List.mem_cons_of_mem _ (List.mem_cons_of_mem _ (List.mem_cons_of_mem _ List.mem_cons_self)))) rfl
      have hio := hb' _ (hwords _ (List.mem_cons_of_mem _ (List.mem_cons_of_mem _ (List.mem_cons_of_mem _ (List.mem_cons_of_mem _ List.mem_cons_self))))) rfl
      have hp := zparm (n := as.length) (desc := (zY j2).1.desc) (by rw [hn] at hparm; simp at hparm; omega) (by omega)
      obtain ⟨go1, -⟩ := zwj_good (hchm _ hjo)
      have hco := hts _ (go1 _ List.mem_cons_self).1
      rw [hyo] at hco
      rw [if_neg (by omega)] at hcell
      refine ⟨_, va_runU (C := zOwn ci) (owner := zVO v) (x := x) hfix hM ⟨⟨rfl, rfl, hRoom.1, hRoom.2, pay_in hts g1, List.mem_cons_self⟩, hts _ (g1 _ List.mem_cons_self).1, hini, ⟨ho1, ho2⟩, ?_, hl, hsm, va_Decl.of hio hco, hse, hi⟩ ⟨zPre_blind, hcell, hpre⟩ rfl (List.length_map _) hsz' rfl hcat3 hd hfit⟩
      rw [← hde]
      exact zparm2 hp
end SITE
