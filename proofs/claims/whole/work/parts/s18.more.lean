-- @after: 00.privs 01.names 02.code 03.tabs 04.mach 05.rows 06.facts 07.check 09.world 10.inrange 11.step 12.step2 13.step3 14.step4 15.step5 16.mna 17.alloc
/-! rows of rows; System.arraycopy -/
theorem z_cp1 : Cond.native arraycopyName ∈ zwT := zmem_wT (zhas_mem (by decide +kernel)) rfl
theorem z_cp2 : Cond.static arraycopyName ∈ zwT := zmem_wT (zhas_mem (by decide +kernel)) rfl
theorem z_cp3 : Cond.initialized "java/lang/System" ∈ zwT := zmem_wT (zhas_mem (by decide +kernel)) rfl
theorem z_nfw : nativeFrameWords "java/lang/System" "arraycopy" 5 ≤ 60 := by decide +kernel
theorem zcp_ne {α : Type} {f : Nat → Nat → α} {c sp dp n a : Nat} {g : Nat → α} (h : a ≠ c) : zcp f c g sp dp n a = f a := by funext b; simp [zcp, h]
theorem zcp_at {α : Type} {f : Nat → Nat → α} {c sp dp n : Nat} {g : Nat → α} : zcp f c g sp dp n c = va_cpy g (f c) sp dp n := by funext b; simp [zcp, va_cpy]
section STEP
variable {p : Program} {l : Launch} {e : Env} {Rm : Room} {s : State} {m : MethodId} {args : Array Value} {below : List Frame} {meth : Method} {c : Code} {H : Heap} {locs : List Loc} {cells slots : Nat} {Q : State → Prop}
variable {D : va_G} {cA sp ad : Nat → Nat} {A : Nat → Prop} {j i pc len : Nat} {raw I : Instr} {L st L1 st1 : List Value} {S S1 : zS} {R R1 : zR0} {mi mi1 : zI} {ml ml1 : zJ} {ls : Array Slot} {q : zT}
theorem zcopy_row (hF : zFx j p s m args meth c D cA sp A) (hck : zck (zM j).2.1 (zR j) i pc raw len .monitorenter = true) (hdec : len ≠ 0 → decode (zY j).2.1 pc = .ok (raw, len)) (hown : zOwn (zM j).2.1 = (zY j).1.cls) (hml : c.maxLocals = ls.size) (hroom : 1 ≤ Rm.frames ∧ 100 ≤ Rm.locals)
    (hs : zcopy L st S R mi ml = some q) (hrel : zRel D cA sp ad A s S R mi ml H locs L ls)
    (kk : zKK p l e Rm s m args below meth c cells slots Q D cA sp ad A j i S q) : W p l e Rm s m args below meth c H locs cells slots Q (F0 m pc ls (st.map (zvv ad sp))) := by
  obtain ⟨hx, hb, -, hr, ho, hts, hlocks, hnm, hK, hA, hE⟩ := id hF
  cases raw <;> simp only [zck, Bool.and_eq_true, beq_iff_eq, Bool.false_eq_true] at hck
  obtain ⟨⟨h0, rfl⟩, hn⟩ := hck
  have hd := hdec (by decide)
  unfold zcopy at hs
  split at hs
  · rename_i n dp d sp0 cc st'
    split at hs
    · rename_i ci n0 di n1 hSc hSd
      split at hs
      · rename_i hg
        obtain ⟨rfl, g1, g2, g3, g4, g5, g6⟩ := hg
        have hw0 := zws_at (ad := ad) (cA := cA) (R := R) (mi := mi) (ml := ml) hSc
        have hw1 := zws_at (ad := ad) (cA := cA) (R := R) (mi := mi) (ml := ml) hSd
        have hR : ((st'.map (zvv ad sp)).map fun v => v.category).sum + (nativeFrameWords "java/lang/System" "arraycopy" 5 + 11) ≤ Rm.locals := by
          rw [zcat_map]
          have := z_nfw
          omega
        have go : ∀ (mi' : zI) (ml' : zJ) (ee : va_E), q = (L, st', S, R, mi', ml') → zce ad cA R mi' ml' d (ci, n1) = ee → (∀ c' q', c' ≠ d → zce ad cA R mi' ml' c' q' = zce ad cA R mi ml c' q') →
            ∀ (H1 : Heap) (locs1 : List Loc), va_P D zcl ((zws ad cA S R mi ml).set d (ad d, ee)) H1 → va_D A ((zws ad cA S R mi ml).set d (ad d, ee)) → va_S A s.heap H1 locs1 → W p l e Rm s m args below meth c H1 locs1 cells slots Q (F0 m (pc + 3) ls (st'.map (zvv ad sp))) := by
          intro mi' ml' ee hq he ho2 H1 locs1 a1 a2 a3
          rw [← zws_upd hSd he ho2] at a1 a2
          exact kk.same ⟨a1, a2, a3, hrel.2.2.2⟩ hq hn
        split at hs
        · exact va_copyi hx hb hml (by rw [hown]; exact ho) (zhas_tab hts h0 rfl) (hts _ z_cp1) (hts _ z_cp2) (hts _ z_cp3) hK hrel.1 hrel.2.1 hrel.2.2.1 cc d 0 0 hw0 hw1 rfl rfl rfl g1 g2 g3 g4 g5 (fun _ _ => rfl) hroom.1 hR hd (go _ ml _ (Option.some.inj hs).symm (by unfold zce; simp only [zcp_at] <;> rfl) (fun c' q' hc' => zce_mi (zcp_ne hc')))
        · exact va_copyl hx hb hml (by rw [hown]; exact ho) (zhas_tab hts h0 rfl) (hts _ z_cp1) (hts _ z_cp2) (hts _ z_cp3) hK hrel.1 hrel.2.1 hrel.2.2.1 cc d 1 1 hw0 hw1 rfl rfl rfl g1 g2 g3 g4 g5 (fun _ _ => rfl) hroom.1 hR hd (go mi _ _ (Option.some.inj hs).symm (by unfold zce; simp only [zcp_at] <;> rfl) (fun c' q' hc' => zce_ml (zcp_ne hc')))
        · cases hs
      · cases hs
    · cases hs
  · cases hs
theorem zmna_inv {ci : Nat} (h : zmna ci L st S R mi ml = some q) : ∃ k n st', st = .int k :: .int n :: st' ∧ ¬ n < 0 ∧ ¬ k < 0 ∧ n.toNatClampNeg ≤ 10 ∧ k.toNatClampNeg ≤ 2000 ∧
    q = (L, .ref S.length :: st', S ++ (ci, n.toNatClampNeg) :: List.replicate n.toNatClampNeg (if ci = 107 then 101 else 100, k.toNatClampNeg),
        fun a b => if a = S.length then (if b < n.toNatClampNeg then S.length + 1 + b + 1 else 0) else if S.length < a then 0 else R a b,
        fun a b => if S.length ≤ a then 0 else mi a b, fun a b => if S.length ≤ a then 0 else ml a b) := by
  unfold zmna at h
  split at h
  · split at h
    · rename_i hc
      exact ⟨_, _, _, rfl, hc.1, hc.2.1, hc.2.2.1, hc.2.2.2, (Option.some.inj h).symm⟩
    · cases h
  · cases h
def zad2 (ad : Nat → Nat) (n q : Nat) (r : Nat → Nat) : Nat → Nat := fun a => if a = n then q else if n < a then r (a - n - 1) else ad a
theorem zad2_lt {ad r : Nat → Nat} {n q : Nat} : ∀ c, c < n → zad2 ad n q r c = ad c := fun c h => by simp [zad2, Nat.ne_of_lt h, Nat.lt_asymm h]
theorem zmna_row {ci dm : Nat} (hF : zFx j p s m args meth c D cA sp A) (hck : zck (zM j).2.1 (zR j) i pc raw len (.multianewarray ci dm) = true) (hdec : len ≠ 0 → decode (zY j).2.1 pc = .ok (raw, len)) (hown : zOwn (zM j).2.1 = (zY j).1.cls) (hg : zgd9 S.length L st R)
    (hs : zst (.multianewarray ci dm) L st S R mi ml = some q) (hcap : cells + q.2.2.1.length ≤ Rm.cells + S.length ∧ slots + zsl q.2.2.1 ≤ Rm.slots + zsl S) (hrel : zRel D cA sp ad A s S R mi ml H locs L ls)
    (kk : zKK p l e Rm s m args below meth c cells slots Q D cA sp ad A j i S q) : W p l e Rm s m args below meth c H locs cells slots Q (F0 m pc ls (st.map (zvv ad sp))) := by
  obtain ⟨hx, hb, -, hr, ho, hts, hlocks, hnm, hK, hA, hE⟩ := id hF
  cases raw <;> simp only [zck, Bool.and_eq_true, beq_iff_eq, Bool.false_eq_true, Bool.or_eq_true] at hck
  obtain ⟨⟨⟨rfl, h0⟩, rfl⟩, hn⟩ := hck
  have hd := hdec (by decide)
  simp only [zst] at hs
  split at hs
  · obtain ⟨k, n, st', rfl, h1, h2, h3, h4, hq⟩ := zmna_inv hs
    subst hq
    have hsum : ∀ N x y, zsl ((x, N) :: List.replicate N (y, k.toNatClampNeg)) = N + N * k.toNatClampNeg := by
      intro N x y; simp [zsl]
    have hc1 : cells + (1 + n.toNatClampNeg) ≤ Rm.cells ∧ slots + (n.toNatClampNeg + n.toNatClampNeg * k.toNatClampNeg) ≤ Rm.slots := by
      simp only [List.length_append, zsl_app, List.length_cons, List.length_replicate, hsum] at hcap
      omega
    have hg' := zgd_tl (zgd_tl hg)
    have fin : ∀ (q0 : Nat) (r : Nat → Nat) (H1 : Heap) (z : va_E) (cI : Nat), (ci = 107 ∧ cI = 101 ∧ z = .inl (cA 101, k.toNatClampNeg, .inr (.inl (fun _ => 0))) ∨ ci = 108 ∧ cI = 100 ∧ z = .inl (cA 100, k.toNatClampNeg, .inl (fun _ => 0))) →
        va_P D zcl ((zws ad cA S R mi ml ++ [(q0, .inl (cA ci, n.toNatClampNeg, .inr (.inr (.inr (.inr (fun i => if i < n.toNatClampNeg then some (r i) else none))))))]) ++ (List.range n.toNatClampNeg).map (fun i => (r i, z))) H1 →
        va_D A ((zws ad cA S R mi ml ++ [(q0, .inl (cA ci, n.toNatClampNeg, .inr (.inr (.inr (.inr (fun i => if i < n.toNatClampNeg then some (r i) else none))))))]) ++ (List.range n.toNatClampNeg).map (fun i => (r i, z))) → va_S A s.heap H1 locs →
        W p l e Rm s m args below meth c H1 locs (cells + 1 + n.toNatClampNeg) (slots + n.toNatClampNeg + n.toNatClampNeg * k.toNatClampNeg) Q (F0 m (pc + 4) ls (.ref q0 :: st'.map (zvv ad sp))) := by
      intro q0 r H1 z cI hz a1 a2 a3
      have hcI : (if ci = 107 then 101 else 100) = cI := by rcases hz with ⟨rfl, rfl, -⟩ | ⟨rfl, rfl, -⟩ <;> rfl
      rw [hcI] at kk
      have hws : zws (zad2 ad S.length q0 r) cA (S ++ (ci, n.toNatClampNeg) :: List.replicate n.toNatClampNeg (cI, k.toNatClampNeg)) (fun a b => if a = S.length then (if b < n.toNatClampNeg then S.length + 1 + b + 1 else 0) else if S.length < a then 0 else R a b) (fun a b => if S.length ≤ a then 0 else mi a b) (fun a b => if S.length ≤ a then 0 else ml a b) =
          (zws ad cA S R mi ml ++ [(q0, .inl (cA ci, n.toNatClampNeg, .inr (.inr (.inr (.inr (fun i => if i < n.toNatClampNeg then some (r i) else none))))))]) ++ (List.range n.toNatClampNeg).map (fun i => (r i, z)) := by
        rw [zws_app (ad := ad) (R := R) (mi := mi) (ml := ml) zad2_lt hg'.2.2 (fun c h => by funext b; simp [Nat.ne_of_lt h, Nat.lt_asymm h]) (fun c h => by funext b; simp [Nat.not_le.mpr h]) (fun c h => by funext b; simp [Nat.not_le.mpr h]), List.append_assoc]
        congr 1
        rw [List.mapIdx_cons, List.singleton_append]
        congr 1
        · simp only [Nat.add_zero, Prod.mk.injEq]
          refine ⟨by simp [zad2], ?_⟩
          have : (fun b => zrf (zad2 ad S.length q0 r) (if b < n.toNatClampNeg then S.length + 1 + b + 1 else 0)) = fun i => if i < n.toNatClampNeg then some (r i) else none := by
            funext b
            by_cases hb9 : b < n.toNatClampNeg
            · rw [if_pos hb9, if_pos hb9]
              simp [zrf, zrn, zad2, show S.length + 1 + b ≠ S.length by omega, show S.length < S.length + 1 + b by omega, show S.length + 1 + b - S.length - 1 = b by omega]
            · rw [if_neg hb9, if_neg hb9]; rfl
          rcases hz with ⟨rfl, rfl, -⟩ | ⟨rfl, rfl, -⟩ <;> (unfold zce; simp only [if_true]; rw [← this])
        · apply List.ext_getElem?
          intro x
          rw [List.getElem?_mapIdx, List.getElem?_map]
          by_cases hx9 : x < n.toNatClampNeg
          · rw [List.getElem?_range hx9, List.getElem?_replicate, if_pos hx9]
            simp only [Option.map_some, Option.some.injEq, Prod.mk.injEq]
            refine ⟨by simp [zad2, show S.length < S.length + (x + 1) by omega, show S.length + (x + 1) - S.length - 1 = x by omega], ?_⟩
            have hle : S.length ≤ S.length + (x + 1) := by omega
            rcases hz with ⟨rfl, rfl, rfl⟩ | ⟨rfl, rfl, rfl⟩ <;> (unfold zce; simp only [if_pos hle])
          · rw [List.getElem?_eq_none (by simp; omega), List.getElem?_eq_none (by simp; omega)]; rfl
      rw [← hws] at a1 a2
      have h := kk (pc + 4) hn (zad2 ad S.length q0 r) H1 locs ls (cells + 1 + n.toNatClampNeg) (slots + n.toNatClampNeg + n.toNatClampNeg * k.toNatClampNeg) zad2_lt
        (by show cells + 1 + n.toNatClampNeg + S.length = cells + (S ++ (ci, n.toNatClampNeg) :: List.replicate n.toNatClampNeg (cI, k.toNatClampNeg)).length; simp; omega)
        (by show slots + n.toNatClampNeg + n.toNatClampNeg * k.toNatClampNeg + zsl S = slots + zsl (S ++ (ci, n.toNatClampNeg) :: List.replicate n.toNatClampNeg (cI, k.toNatClampNeg)); rw [zsl_app, hsum]; omega) ⟨a1, a2, a3, hrel.2.2.2.ad zad2_lt hg'.1⟩
      have e1 : (Value.ref S.length :: st').map (zvv (zad2 ad S.length q0 r) sp) = .ref q0 :: st'.map (zvv ad sp) := by
        rw [List.map_cons, zmap_ad zad2_lt hg'.2.1]
        simp [zvv, zad2]
      rw [← e1]
      exact h
    have hP0 : va_P D zcl (zws ad cA S R mi ml ++ va_pl [] (fun _ => .inr (0, []))) H := by simpa [va_pl] using hrel.1
    have hD0 : va_D A (zws ad cA S R mi ml ++ va_pl [] (fun _ => .inr (0, []))) := by simpa [va_pl] using hrel.2.1
    have hpl : ∀ (N : Nat) (r : Nat → Nat) (z : va_E), va_pl ([] ++ (List.range N).map r) (vr_up (fun _ => .inr (0, [])) ((List.range N).map r) z) = (List.range N).map (fun i => (r i, z)) := by
      intro N r z
      unfold va_pl
      rw [List.nil_append, List.map_map]
      apply List.map_congr_left
      intro i hi
      simp only [Function.comp]
      rw [vr_up_in (List.mem_map.mpr ⟨i, hi, rfl⟩)]
    rcases h0 with ⟨rfl, h0⟩ | ⟨rfl, h0⟩
    · have hcy : s.vm.findClass (FieldType.array .long).toString = some (cA 101) := (hK.2 1 _ rfl).2
      refine va_mna (ty := .long) (cy := cA 101) (N' := n.toNatClampNeg) (K' := k.toNatClampNeg) (z := (k.toNatClampNeg, .inr (.inl (fun _ => 0)))) (L := []) (f := fun _ => .inr (0, [])) hx hb (by rw [hown]; exact ho) (zhas_tab hts h0 rfl) (show (Cond.arrayOver (.array .long)).before args s = true from hE.1.2.2.2.2.1) (hts _ z_arr.2.1) hcy hK hP0 hD0 hrel.2.2.1 hA h1 h2 rfl rfl (by omega) (by show _ * 8 ≤ _; omega) (by omega) rfl rfl hc1.1 hc1.2 (fun _ => by unfold Jvm.Free.Multi.innerC; simp [vp_cell, arrV, defaultValue, Array.ext_iff]) hd (fun q0 r cB H1 _ _ hK1 a1 a2 a3 => ?_)
      have := zRA_eq (k := 7) hK1 rfl
      subst this
      rw [hpl] at a1 a2
      exact fin q0 r H1 _ 101 (Or.inl ⟨rfl, rfl, rfl⟩) a1 a2 a3
    · have hcy : s.vm.findClass (FieldType.array .int).toString = some (cA 100) := (hK.2 0 _ rfl).2
      refine va_mna (ty := .int) (cy := cA 100) (N' := n.toNatClampNeg) (K' := k.toNatClampNeg) (z := (k.toNatClampNeg, .inl (fun _ => 0))) (L := []) (f := fun _ => .inr (0, [])) hx hb (by rw [hown]; exact ho) (zhas_tab hts h0 rfl) (show (Cond.arrayOver (.array .int)).before args s = true from hE.1.2.2.2.2.2) (hts _ z_arr.1) hcy hK hP0 hD0 hrel.2.2.1 hA h1 h2 rfl rfl (by omega) (by show _ * 4 ≤ _; omega) (by omega) rfl rfl hc1.1 hc1.2 (fun _ => by unfold Jvm.Free.Multi.innerC; simp [vp_cell, arrV, defaultValue, Array.ext_iff]) hd (fun q0 r cB H1 _ _ hK1 a1 a2 a3 => ?_)
      have := zRA_eq (k := 8) hK1 rfl
      subst this
      rw [hpl] at a1 a2
      exact fin q0 r H1 _ 100 (Or.inr ⟨rfl, rfl, rfl⟩) a1 a2 a3
  · cases hs
end STEP
