-- @after: 00.privs 01.names 02.code 03.tabs 04.mach 05.rows 06.facts 07.check 09.world 10.inrange 11.step 12.step2 13.step3 14.step4 15.step5 16.mna 17.alloc 18.more 19.sim 20.jump 21.call 22.calls 23.run 24.site k8
/-! THE PURE MACHINE IS SOUND: a run of it is one of the real machine -/
theorem zlist_split {α : Type} (l : List α) (n : Nat) (h : n ≤ l.length) : (l.take n).reverse.reverse ++ l.drop n = l := by
  rw [List.reverse_reverse, List.take_append_drop]
theorem zst_all {p : Program} {l : Launch} {e : Env} {Rm : Room} {s : State} {m : MethodId} {args : Array Value} {below : List Frame} {meth : Method} {c : Code} {H : Heap} {locs : List Loc} {cells slots : Nat} {Q : State → Prop}
    {D : va_G} {cA sp ad : Nat → Nat} {A : Nat → Prop} {j i pc len : Nat} {raw I : Instr} {L st : List Value} {S : zS} {R : zR0} {mi : zI} {ml : zJ} {ls : Array Slot} {q : zT}
    (hF : zFx j p s m args meth c D cA sp A) (hck : zck (zM j).2.1 (zR j) i pc raw len I = true) (hdec : len ≠ 0 → decode (zY j).2.1 pc = .ok (raw, len)) (hfn : ∀ f, I = .putfield f → zfin_ f (decide ((zY j).1.name = "<init>")) = true) (hnew : ∀ ci, I = .new ci → ci ≠ 12 ∧ ci ≠ 11) (hown : zOwn (zM j).2.1 = (zY j).1.cls) (hml : c.maxLocals = ls.size) (hg : zgd9 S.length L st R)
    (hroom : 1 ≤ Rm.frames ∧ 100 ≤ Rm.locals ∧ cells ≤ Rm.cells ∧ slots ≤ Rm.slots) (hs : zst I L st S R mi ml = some q) (hcap : cells + q.2.2.1.length ≤ Rm.cells + S.length ∧ slots + zsl q.2.2.1 ≤ Rm.slots + zsl S) (hrel : zRel D cA sp ad A s S R mi ml H locs L ls)
    (kk : zKK p l e Rm s m args below meth c cells slots Q D cA sp ad A j i S q) : W p l e Rm s m args below meth c H locs cells slots Q (F0 m pc ls (st.map (zvv ad sp))) := by
  by_cases hp : zpl I = true
  · exact zsim_pl hF hp hck hdec hown hml hroom hs hrel kk
  · cases I
    case getfield f => exact zsim_get hF hck hdec hown zkf_ok hs hrel kk
    case putfield f => exact zsim_put hF hck (hfn f rfl) hdec hown zkf_ok hs hrel kk
    case iaload => exact zald_row hF hck (Or.inl ⟨rfl, rfl⟩) hdec hs hrel kk
    case laload => exact zald_row hF hck (Or.inr (Or.inl ⟨rfl, rfl⟩)) hdec hs hrel kk
    case baload => exact zald_row hF hck (Or.inr (Or.inr (Or.inl ⟨rfl, rfl⟩))) hdec hs hrel kk
    case aaload => exact zald_row hF hck (Or.inr (Or.inr (Or.inr ⟨rfl, rfl⟩))) hdec hs hrel kk
    case iastore => exact zast_row hF hck (Or.inl ⟨rfl, rfl⟩) hdec hs hrel kk
    case lastore => exact zast_row hF hck (Or.inr (Or.inl ⟨rfl, rfl⟩)) hdec hs hrel kk
    case bastore => exact zast_row hF hck (Or.inr (Or.inr (Or.inl ⟨rfl, rfl⟩))) hdec hs hrel kk
    case aastore => exact zast_row hF hck (Or.inr (Or.inr (Or.inr ⟨rfl, rfl⟩))) hdec hs hrel kk
    case arraylength => exact zalen_row hF hck hdec hs hrel kk
    case new ci => exact znew_row hF hck (hnew ci rfl) hdec hown hg hs hcap hrel kk
    case newarray t => exact znewa_row hF hck hdec hg hs hcap hrel kk
    case anewarray ci => exact zanew_row hF hck hdec hown hg hs hcap hrel kk
    case multianewarray ci n => exact zmna_row hF hck hdec hown hg hs hcap hrel kk
    case monitorenter => exact zcopy_row hF hck hdec hown hml ⟨hroom.1, hroom.2.1⟩ hs hrel kk
    all_goals exact absurd rfl hp
theorem zrk_spec {j : Nat} (hm : zchm j = true) : ((zM j).2.2 = 0 → (zY j).2.2 = none) ∧ ((zM j).2.2 = 1 → (zY j).2.2 = some .int) ∧ ((zM j).2.2 = 2 → (zY j).2.2 = some .boolean) ∧ ((zM j).2.2 = 3 → (zY j).2.2 = some .byte) ∧ ((zM j).2.2 = 4 → (zY j).2.2 = some .char) ∧ ((zM j).2.2 = 5 → (zY j).2.2 = some .long) ∧ ((zM j).2.2 = 6 → ∃ C, (zY j).2.2 = some (.object C)) := by
  unfold zchm at hm
  simp only [Bool.and_eq_true] at hm
  have h := hm.2
  split at h <;> simp_all
set_option maxHeartbeats 4000000 in
theorem zsim (l : Launch) (D : va_G) (cA sp : Nat → Nat) : ∀ f, zsimP l D cA sp f := by
  intro f
  induction f with
  | zero => intro d j i L st S R mi ml r S1 R1 mi1 ml1 h; simp [zex] at h
  | succ f ih =>
    intro d j i L st S R mi ml r S1 R1 mi1 ml1 h p e s m args below meth c ad0 S0 A mc ms ad H locs ls cells slots pc raw len hj hF hL hg hR hrel had hS0 hcl hsl hmc hms
    obtain ⟨hx, hb, hml, hr, ho, hts, hlocks, hnm, hK, hA, hE⟩ := id hF
    have hm := zkm_ok j hj
    obtain ⟨g1, g2, g3, g4, hown, g6⟩ := zwj_good hm
    have hls : ls.size = (zM j).1 := hrel.2.2.2.1.trans hL
    obtain ⟨-, -, hfin1, hfin2⟩ := zex_ok h hg
    rw [zex] at h
    cases hC : (zC j)[i]? with
    | none => simp [hC] at h
    | some I =>
      simp only [hC] at h
      obtain ⟨pc', raw', len', hR', hck, hdec, hfn, hex⟩ := zchk_at (zkc_ok j hj) hC
      rw [hR] at hR'
      cases hR'
      cases hs : zst I L st S R mi ml with
      | some q =>
        have hq := zst_ok hg hs
        obtain ⟨L2, st2, S2, R2, mi2, ml2⟩ := q
        simp only [hs] at h
        obtain ⟨-, -, hf1, hf2⟩ := zex_ok h hq.1
        obtain ⟨hq1, hq2, hq3, hq4⟩ := hq
        dsimp only at hq1 hq2 hq3 hq4
        refine zst_all hF hck hdec hfn (fun ci e => by subst e; exact hex) hown (hml.trans hls.symm) hg ⟨Nat.le_add_left 1 d, by show 100 ≤ 100 * (d + 1); omega, by show cells ≤ mc; omega, by show slots ≤ ms; omega⟩ hs ⟨by show cells + S2.length ≤ mc + S.length; omega, by show slots + zsl S2 ≤ ms + zsl S; omega⟩ hrel ?_
        intro pc1 hn ad1 H1 locs1 ls1 cells1 slots1 ha1 hc1 hs1 hrel1
        obtain ⟨raw1, len1, hR1⟩ := znx_at hn
        exact ih d j (i + 1) L2 st2 S2 R2 mi2 ml2 r S1 R1 mi1 ml1 h p e s m args below meth c ad0 S0 A mc ms ad1 H1 locs1 ls1 cells1 slots1 pc1 raw1 len1 hj hF (hq4.trans hL) hq1 hR1 hrel1 (fun c hc => (ha1 c (Nat.lt_of_lt_of_le hc hS0)).trans (had c hc)) (Nat.le_trans hS0 hq2) (by have : cells1 + S.length = cells + S2.length := hc1; omega) (by have : slots1 + zsl S = slots + zsl S2 := hs1; omega) hmc hms
      | none =>
        simp only [hs] at h
        cases hjp : zjp I i st with
        | some q =>
          obtain ⟨i2, st2⟩ := q
          simp only [hjp] at h
          refine zjp_row hF hck hdec hjp (fun pc1 raw1 len1 hR1 => ?_)
          exact ih d j i2 L st2 S R mi ml r S1 R1 mi1 ml1 h p e s m args below meth c ad0 S0 A mc ms ad H locs ls cells slots pc1 raw1 len1 hj hF hL ⟨hg.1, zjp_ok hjp hg.2.1, hg.2.2⟩ hR1 hrel had hS0 hcl hsl hmc hms
        | none =>
          simp only [hjp] at h
          cases hrt : zrt (zM j).2.2 I st with
          | some r' =>
            simp only [hrt] at h
            cases h
            have e1 : mc = cells := by omega
            have e2 : ms = slots := by omega
            subst e1; subst e2
            obtain ⟨k0, k1, k2, k3, k4, k5, k6⟩ := zrk_spec hm
            have hfr := hrel.2.2.1.2.2
            have hend : ∀ t : State, t.heap = H → zPost D cA ad0 S0.length A S R mi ml ad t := fun t ht => ⟨had, by rw [ht]; exact hrel.1, hrel.2.1⟩
            cases I
            case return_ =>
              simp only [zrt] at hrt
              split at hrt
              · cases hrt
                simp only [zck, Bool.and_eq_true, decide_eq_true_eq, beq_iff_eq] at hck
                obtain ⟨rfl, rfl⟩ := hck
                exact W.vret hx hb (hr.trans (k0 hex)) (fun t ht hW => ⟨⟨ad, rfl, trivial, hend t ht⟩, hrel.2.2.1.F ht⟩) hfr (hdec (by decide))
              · cases hrt
            case ireturn =>
              simp only [zrt] at hrt
              split at hrt
              · split at hrt
                · rename_i a hnar
                  cases hrt
                  simp only [zck, Bool.and_eq_true, decide_eq_true_eq, beq_iff_eq] at hck
                  obtain ⟨rfl, rfl⟩ := hck
                  have hex : (zM j).2.2 = 1 ∨ (zM j).2.2 = 2 ∨ (zM j).2.2 = 3 ∨ (zM j).2.2 = 4 := by simpa using hex
                  rcases hex with e | e | e | e
                  · exact W.iret (v := a) hx hb (hr.trans (k1 e)) (fun t ht hW => ⟨⟨a, ad, rfl, rfl, hend t ht⟩, hrel.2.2.1.F ht⟩) hfr (hdec (by decide))
                  · rw [e] at hnar
                    exact W.zret (v := a) (ty := .boolean) hx hb (hr.trans (k2 e)) hnar (fun t ht hW => ⟨⟨a, ad, rfl, rfl, hend t ht⟩, hrel.2.2.1.F ht⟩) hfr (hdec (by decide))
                  · rw [e] at hnar
                    exact W.zret (v := a) (ty := .byte) hx hb (hr.trans (k3 e)) hnar (fun t ht hW => ⟨⟨a, ad, rfl, rfl, hend t ht⟩, hrel.2.2.1.F ht⟩) hfr (hdec (by decide))
                  · rw [e] at hnar
                    exact W.zret (v := a) (ty := .char) hx hb (hr.trans (k4 e)) hnar (fun t ht hW => ⟨⟨a, ad, rfl, rfl, hend t ht⟩, hrel.2.2.1.F ht⟩) hfr (hdec (by decide))
                · cases hrt
              · cases hrt
            case lreturn =>
              simp only [zrt] at hrt
              split at hrt
              · rename_i a
                cases hrt
                simp only [zck, Bool.and_eq_true, decide_eq_true_eq, beq_iff_eq] at hck
                obtain ⟨rfl, rfl⟩ := hck
                exact W.lret (v := a) hx hb (hr.trans (k5 hex)) (fun t ht hW => ⟨⟨a, ad, rfl, rfl, hend t ht⟩, hrel.2.2.1.F ht⟩) hfr (hdec (by decide))
              · cases hrt
            case areturn =>
              obtain ⟨C9, k6⟩ := k6 hex
              simp only [zrt] at hrt
              split at hrt
              · rename_i a
                cases hrt
                simp only [zck, Bool.and_eq_true, decide_eq_true_eq, beq_iff_eq] at hck
                obtain ⟨rfl, rfl⟩ := hck
                exact W.aret (v := .ref (ad a)) hx hb (hr.trans k6) (Or.inl ⟨C9, rfl⟩) (Or.inr ⟨_, rfl⟩) (fun t ht hW => ⟨⟨some (ad a), ad, rfl, rfl, hend t ht⟩, hrel.2.2.1.F ht⟩) hfr (hdec (by decide))
              · cases hrt
                simp only [zck, Bool.and_eq_true, decide_eq_true_eq, beq_iff_eq] at hck
                obtain ⟨rfl, rfl⟩ := hck
                exact W.aret (v := .null) hx hb (hr.trans k6) (Or.inl ⟨C9, rfl⟩) (Or.inl rfl) (fun t ht hW => ⟨⟨none, ad, rfl, rfl, hend t ht⟩, hrel.2.2.1.F ht⟩) hfr (hdec (by decide))
              · cases hrt
            all_goals cases hrt
          | none =>
            simp only [hrt] at h
            cases hv : zsite I with
            | none => simp [hv] at h
            | some v =>
              cases d with
              | zero => simp [hv] at h
              | succ d =>
                simp only [hv] at h
                split at h
                · rename_i hgd
                  cases ht : ztg S v (st.take (zV v).1).reverse with
                  | none => simp [ht] at h
                  | some j1 =>
                    simp only [ht] at h
                    split at h
                    · rename_i hlen
                      cases hcx : zex f d j1 0 (zent (st.take (zV v).1).reverse (zM j1).1) [] S R mi ml with
                      | none => simp [hcx] at h
                      | some q =>
                        obtain ⟨r2, S2, R2, mi2, ml2⟩ := q
                        rw [hcx] at h
                        have hga : ∀ w ∈ (st.take (zV v).1).reverse, zok S.length w := fun w hw => hg.2.1 w (List.mem_of_mem_take (List.mem_reverse.mp hw))
                        obtain ⟨b1, b2, b3, b4⟩ := zex_ok hcx ⟨zent_ok hga, (fun w hw => absurd hw List.not_mem_nil), hg.2.2⟩
                        have hu := zgd_up hg b3
                        have hg2 : zgd9 S2.length L (r2.toList ++ st.drop (zV v).1) R2 := by
                          refine ⟨hu.1, fun w hw => ?_, b2⟩
                          rcases List.mem_append.mp hw with hw | hw
                          · exact b1 w (by cases r2 <;> simp_all)
                          · exact hu.2.1 w (List.mem_of_mem_drop hw)
                        obtain ⟨-, -, hf1, hf2⟩ := zex_ok h hg2
                        obtain ⟨mc1, hmc1⟩ : ∃ k, k + S.length = S2.length := ⟨S2.length - S.length, by omega⟩
                        obtain ⟨ms1, hms1⟩ : ∃ k, k + zsl S = zsl S2 := ⟨zsl S2 - zsl S, by omega⟩
                        have hn : (zV v).1 = ((st.take (zV v).1).reverse).length := by simp; omega
                        obtain ⟨hnx, a, hrun⟩ := zcall_run (a1 := ad) (rest := st.drop (zV v).1) (r := r2) (S1 := S2) (R1 := R2) (mi1 := mi2) (ml1 := ml2) (l := l) (e := e) (below := below) (cells := cells) (slots := slots) (mc := mc) (ms := ms) (mc1 := mc1) (ms1 := ms1) hF hrel hls hv hck hdec zkv_ok zkm_ok hown ht hn rfl
                          (fun hj1 => zmet ih (zkm_ok j1 hj1) hj1 hcx hlen hga hg.2.2 ad H.size mc1 ms1 hmc1 hms1) hgd.2 ⟨by omega, by omega⟩
                        rw [zlist_split st _ hgd.1] at hrun
                        refine zback hrun hrel.2.2.1 (zfree hF hrel) (fun ad1 H1 locs1 ha1 c1 c2 c3 => ?_)
                        obtain ⟨raw1, len1, hR1⟩ := znx_at hnx
                        have e3 : r2.toList.map (zvv ad1 sp) ++ (st.drop (zV v).1).map (zvv ad sp) = (r2.toList ++ st.drop (zV v).1).map (zvv ad1 sp) := by
                          rw [List.map_append, zmap_ad ha1 (fun w hw => hg.2.1 w (List.mem_of_mem_drop hw))]
                        rw [e3]
                        exact ih (d + 1) j (i + 1) L (r2.toList ++ st.drop (zV v).1) S2 R2 mi2 ml2 r S1 R1 mi1 ml1 h p e s m args below meth c ad0 S0 A mc ms ad1 H1 locs1 ls (cells + mc1) (slots + ms1) (pc + 3) raw1 len1 hj hF hL hg2 hR1 ⟨c1, c2, c3, hrel.2.2.2.ad ha1 hg.1⟩ (fun c hc => (ha1 c (Nat.lt_of_lt_of_le hc hS0)).trans (had c hc)) (Nat.le_trans hS0 b3) (by omega) (by omega) hmc hms
                    · simp at h
                · simp at h
