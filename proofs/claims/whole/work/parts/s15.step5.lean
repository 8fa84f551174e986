-- @after: 00.privs 01.names 02.code 03.tabs 04.mach 05.rows 06.facts 07.check 09.world 10.inrange 11.step 12.step2 13.step3 14.step4
/-! stores into rows -/
section STEP
variable {p : Program} {l : Launch} {e : Env} {Rm : Room} {s : State} {m : MethodId} {args : Array Value} {below : List Frame} {meth : Method} {c : Code} {H : Heap} {locs : List Loc} {cells slots : Nat} {Q : State → Prop}
variable {D : va_G} {cA sp ad : Nat → Nat} {A : Nat → Prop} {j i pc len : Nat} {raw I : Instr} {L st L1 st1 : List Value} {S S1 : zS} {R R1 : zR0} {mi mi1 : zI} {ml ml1 : zJ} {ls : Array Slot} {q : zT}
theorem zuR_at {c k x : Nat} : (fun n => zrf ad (zu R c k (x + 1) c n)) = va_up (fun n => zrf ad (R c n)) k (some (ad x)) := by
  funext n
  by_cases h : n = k
  · subst h; simp [zu, va_up, zrf, zrn]
  · simp [zu, va_up, h]
theorem z_cast : ∀ ci, ci = 0 ∨ ci = 1 ∨ ci = 2 ∨ ci = 3 ∨ ci = 9 ∨ ci = 10 → Cond.castable (zOwn ci) "OnlyStrangers$Plan" ∈ zwN := by
  intro ci h
  refine zmem_wN ?_ rfl
  rcases h with rfl | rfl | rfl | rfl | rfl | rfl <;> exact of_decide_eq_true (by decide +kernel)
theorem zast_row {ks : List Nat} {J : Instr} (hF : zFx j p s m args meth c D cA sp A) (hck : zsame (zR j) i pc raw len 1 J = true) (hJ : J = .iastore ∧ ks = [100] ∨ J = .lastore ∧ ks = [101] ∨ J = .bastore ∧ ks = [102, 103] ∨ J = .aastore ∧ ks = [104, 105, 106]) (hdec : len ≠ 0 → decode (zY j).2.1 pc = .ok (raw, len))
    (hs : zast ks L st S R mi ml = some q) (hrel : zRel D cA sp ad A s S R mi ml H locs L ls)
    (kk : zKK p l e Rm s m args below meth c cells slots Q D cA sp ad A j i S q) : W p l e Rm s m args below meth c H locs cells slots Q (F0 m pc ls (st.map (zvv ad sp))) := by
  obtain ⟨hx, hb, -, hr, ho, hts, hlocks, hnm, hK, hA, hE⟩ := id hF
  obtain ⟨rfl, rfl, hn⟩ := zsame_spec hck
  have hd := hdec (by decide)
  unfold zast at hs
  split at hs
  · rename_i v x cc st'
    split at hs
    · rename_i ci n hS
      split at hs
      · rename_i hg
        have hin := zin_vp hg.2
        have hws := zws_at (ad := ad) (cA := cA) (R := R) (mi := mi) (ml := ml) hS
        have go : ∀ (R' : zR0) (mi' : zI) (ml' : zJ) (ee : va_E), q = (L, st', S, R', mi', ml') → zce ad cA R' mi' ml' cc (ci, n) = ee → (∀ c' q', c' ≠ cc → zce ad cA R' mi' ml' c' q' = zce ad cA R mi ml c' q') →
            ∀ (H1 : Heap) (locs1 : List Loc), va_P D zcl ((zws ad cA S R mi ml).set cc (ad cc, ee)) H1 → va_D A ((zws ad cA S R mi ml).set cc (ad cc, ee)) → va_S A s.heap H1 locs1 → W p l e Rm s m args below meth c H1 locs1 cells slots Q (F0 m (pc + 1) ls (st'.map (zvv ad sp))) := by
          intro R' mi' ml' ee hq he ho2 H1 locs1 a1 a2 a3
          rw [← zws_upd hS he ho2] at a1 a2
          exact kk.same ⟨a1, a2, a3, hrel.2.2.2⟩ hq hn
        have hRs : ∀ y, v = .ref y → q = (L, st', S, zu R cc x.toNatClampNeg (y + 1), mi, ml) → (ci = 104 ∨ ci = 105 ∨ ci = 106) → ∀ (H1 : Heap) (locs1 : List Loc), va_P D zcl ((zws ad cA S R mi ml).set cc (ad cc, .inl (cA ci, n, .inr (.inr (.inr (.inr (va_up (fun k => zrf ad (R cc k)) x.toNatClampNeg (some (ad y))))))))) H1 → va_D A ((zws ad cA S R mi ml).set cc (ad cc, .inl (cA ci, n, .inr (.inr (.inr (.inr (va_up (fun k => zrf ad (R cc k)) x.toNatClampNeg (some (ad y))))))))) → va_S A s.heap H1 locs1 → W p l e Rm s m args below meth c H1 locs1 cells slots Q (F0 m (pc + 1) ls (st'.map (zvv ad sp))) := by
          intro y hv hq hci
          refine go _ _ _ _ hq ?_ (fun c' q' hc' => zce_R (zuc_ne hc'))
          rw [← zuR_at]
          rcases hci with rfl | rfl | rfl <;> rfl
        have hob : ∀ (y k : Nat), (S[y]?).map (·.1) = some k → k < 13 → ∃ fs, (zws ad cA S R mi ml)[y]? = some (ad y, .inr (k, fs)) := by
          intro y k h hk
          cases hy : S[y]? with
          | none => rw [hy] at h; cases h
          | some z =>
            obtain ⟨k', n'⟩ := z
            rw [hy] at h
            have e1 : k' = k := Option.some.inj h
            subst e1
            have h9 := zws_at (ad := ad) (cA := cA) (R := R) (mi := mi) (ml := ml) hy
            rw [zce_obj hk] at h9
            exact ⟨_, h9⟩
        split at hs
        · rcases hJ with ⟨rfl, rfl⟩ | ⟨rfl, rfl⟩ | ⟨rfl, rfl⟩ | ⟨rfl, rfl⟩ <;> first | (simp at hg; done) | skip
          exact va_iast hx hb hK hrel.1 hrel.2.1 hrel.2.2.1 cc 0 hws rfl hin hd (go R _ ml _ (Option.some.inj hs).symm (by unfold zce; rw [zu_at]; rfl) (fun c' q' hc' => zce_mi (zuc_ne hc')))
        · rcases hJ with ⟨rfl, rfl⟩ | ⟨rfl, rfl⟩ | ⟨rfl, rfl⟩ | ⟨rfl, rfl⟩ <;> first | (simp at hg; done) | skip
          exact va_last hx hb hK hrel.1 hrel.2.1 hrel.2.2.1 cc 1 hws rfl hin hd (go R mi _ _ (Option.some.inj hs).symm (by unfold zce; rw [zu_atL]; rfl) (fun c' q' hc' => zce_ml (zuc_ne hc')))
        · rcases hJ with ⟨rfl, rfl⟩ | ⟨rfl, rfl⟩ | ⟨rfl, rfl⟩ | ⟨rfl, rfl⟩ <;> first | (simp at hg; done) | skip
          exact va_bast hx hb hK hrel.1 hrel.2.1 hrel.2.2.1 cc 2 hws rfl hin hd (go R _ ml _ (Option.some.inj hs).symm (by unfold zce; rw [zu_at, vp_nar_byte]; rfl) (fun c' q' hc' => zce_mi (zuc_ne hc')))
        · rcases hJ with ⟨rfl, rfl⟩ | ⟨rfl, rfl⟩ | ⟨rfl, rfl⟩ | ⟨rfl, rfl⟩ <;> first | (simp at hg; done) | skip
          exact va_zast hx hb hK hrel.1 hrel.2.1 hrel.2.2.1 cc 3 hws rfl hin hd (go R _ ml _ (Option.some.inj hs).symm (by unfold zce; rw [zu_at]; rfl) (fun c' q' hc' => zce_mi (zuc_ne hc')))
        · rcases hJ with ⟨rfl, rfl⟩ | ⟨rfl, rfl⟩ | ⟨rfl, rfl⟩ | ⟨rfl, rfl⟩ <;> first | (simp at hg; done) | skip
          split at hs
          · rename_i y h7
            obtain ⟨fs, hfs⟩ := hob y 7 h7 (by decide)
            exact va_astq hx hb hK hrel.1 hrel.2.1 hrel.2.2.1 cc 4 y 7 hws rfl hfs rfl hin hd (hRs y rfl (Option.some.inj hs).symm (Or.inl rfl))
          · cases hs
        · rcases hJ with ⟨rfl, rfl⟩ | ⟨rfl, rfl⟩ | ⟨rfl, rfl⟩ | ⟨rfl, rfl⟩ <;> first | (simp at hg; done) | skip
          split at hs
          · rename_i y h7
            obtain ⟨fs, hfs⟩ := hob y 4 h7 (by decide)
            exact va_astq hx hb hK hrel.1 hrel.2.1 hrel.2.2.1 cc 5 y 4 hws rfl hfs rfl hin hd (hRs y rfl (Option.some.inj hs).symm (Or.inr (Or.inl rfl)))
          · cases hs
        · rcases hJ with ⟨rfl, rfl⟩ | ⟨rfl, rfl⟩ | ⟨rfl, rfl⟩ | ⟨rfl, rfl⟩ <;> first | (simp at hg; done) | skip
          split at hs
          · rename_i y h7
            cases hy : (S[y]?).map (·.1) with
            | none => rw [hy] at h7; simp at h7
            | some k =>
              rw [hy] at h7
              have hk : k = 0 ∨ k = 1 ∨ k = 2 ∨ k = 3 ∨ k = 5 ∨ k = 9 ∨ k = 10 := by simpa using h7
              by_cases h5 : k = 5
              · subst h5
                obtain ⟨fs, hfs⟩ := hob y 5 hy (by decide)
                exact va_astq hx hb hK hrel.1 hrel.2.1 hrel.2.2.1 cc 6 y 5 hws rfl hfs rfl hin hd (hRs y rfl (Option.some.inj hs).symm (Or.inr (Or.inr rfl)))
              · have hk' : k = 0 ∨ k = 1 ∨ k = 2 ∨ k = 3 ∨ k = 9 ∨ k = 10 := by omega
                obtain ⟨fs, hfs⟩ := hob y k hy (by omega)
                have hcl : ∃ T N, zcl[k]? = some (zOwn k, T, N) := by
                  rcases hk' with rfl | rfl | rfl | rfl | rfl | rfl <;> exact ⟨_, _, rfl⟩
                obtain ⟨T, N, hcl⟩ := hcl
                exact va_astqO hx hb hK hrel.1 hrel.2.1 hrel.2.2.1 cc 6 y k hws rfl (hE.1.1 _ (z_cast k hk')) hfs hcl hin hd (hRs y rfl (Option.some.inj hs).symm (Or.inr (Or.inr rfl)))
          · cases hs
        · cases hs
      · cases hs
    · cases hs
  · cases hs
end STEP
