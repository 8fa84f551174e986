/-! The law, from its entry. -/
theorem ld_p0 : decode code 0 = .ok (.new 7, 3) := by decide +kernel
theorem ld_p3 : decode code 3 = .ok (.dup, 1) := by decide +kernel
theorem ld_p4 : decode code 4 = .ok (.invokespecial 9, 3) := by decide +kernel
theorem ld_p7 : decode code 7 = .ok (.astore_n 1, 1) := by decide +kernel
theorem ld_p8 : decode code 8 = .ok (.new 10, 3) := by decide +kernel
theorem ld_p11 : decode code 11 = .ok (.dup, 1) := by decide +kernel
theorem ld_p12 : decode code 12 = .ok (.invokespecial 12, 3) := by decide +kernel
theorem ld_p15 : decode code 15 = .ok (.astore_n 2, 1) := by decide +kernel
theorem ld_p16 : decode code 16 = .ok (.iconst 0, 1) := by decide +kernel
theorem ld_p17 : decode code 17 = .ok (.istore_n 3, 1) := by decide +kernel
abbrev z0R : zR0 := fun _ _ => 0
abbrev z0I : zI := fun _ _ => 0
abbrev z0J : zJ := fun _ _ => 0
section LST
variable {l : Launch} {p : Program} {e : Env} {s : State} {m : MethodId} {below : List Frame} {meth : Method} {c : Code} {b : Nat} {D : va_G} {cA sp ad ad' : Nat → Nat} {H : Heap} {locs : List Loc} {cells slots : Nat} {Q : State → Prop}
variable {ls : Array Slot} {rest : List Value} {S' S1 : zS} {R' R1 : zR0} {mi' mi1 : zI} {ml' ml1 : zJ} {ci N j idx pc f : Nat}
/-- a new object of the class ci, and its constructor -/
theorem l_new {C : String} {T : u_T} (F : lF p s m c b D cA sp) (hcl : zcl[ci]? = some (C, T, N)) (hN : N ≤ 60) (hP : va_P D zcl (zws ad' cA S' R' mi' ml') H) (hD : va_D (lA s) (zws ad' cA S' R' mi' ml')) (hS : va_S (lA s) s.heap H locs) (hR : ∀ a k, R' a k ≤ S'.length) (h1 : Cond.classLink R_law idx C ∈ lw_tbl) (h2 : Cond.instantiable C N ∈ lw_tbl) (h3 : Cond.initialized C ∈ lw_tbl) (hroom : cells + 1 ≤ 600000 ∧ slots + N ≤ 7302250) (hdg : decode code pc = .ok (.new idx, 3))
    (kk : ∀ (q : Nat) (H1 : Heap), lM D cA s (fun _ => q) [(ci, N)] z0R z0I z0J ad' S' R' mi' ml' H1 locs → W p l e room_1 s m #[Value.ref b] below meth c H1 locs (cells + 1) (slots + N) Q (F0 m (pc + 3) ls (.ref q :: rest))) : W p l e room_1 s m #[Value.ref b] below meth c H locs cells slots Q (F0 m pc ls rest) := by
  obtain ⟨hx, hb, hml, ho, hts, hK, hE⟩ := id F
  have h13 := zcl_lt hcl
  have hA : ∀ q : Nat, s.heap.size ≤ q → lA s q := fun _ h => h
  have hT := lw_T hts
  refine va_new (ci := ci) (fs := (List.range N).map (fun k => zsv9 (fun _ => 0) z0R z0I z0J 0 k (zyy ci k))) hx hb hT (zuT hcl).1 (zyy ci) (zuT hcl).2.2.1 ho (hts _ h1) (hts _ h2) (hts _ h3) hK hP hD hS hA hcl ?_ hroom.1 hroom.2 hdg (fun q0 H1 b1 b2 b3 => ?_)
  · intro k hk
    have h0 := znof_ok ci h13 k (by omega)
    unfold znof at h0
    have e1 := zsv_def (ad := fun _ => 0) (R := z0R) (mi := z0I) (ml := z0J) (c := 0) (k := k) (ty := zyy ci k) rfl rfl rfl ⟨(fun z => by rw [z] at h0; cases h0), (fun z => by rw [z] at h0; cases h0)⟩
    rw [← e1]
    simp [vp_V, hk]
  · have e2 : ∀ k, zsv9 (fun _ => q0) z0R z0I z0J 0 k (zyy ci k) = zsv9 (fun _ => 0) z0R z0I z0J 0 k (zyy ci k) := fun k => by unfold zsv9; cases zyy ci k <;> rfl
    have ew : zws (fun _ => q0) cA [(ci, N)] z0R z0I z0J = [(q0, .inr (ci, (List.range N).map (fun k => zsv9 (fun _ => 0) z0R z0I z0J 0 k (zyy ci k))))] := by
      simp only [zws, List.mapIdx_cons, List.mapIdx_nil]
      rw [zce_obj h13]
      simp only [e2]
    generalize hx9 : ((q0, .inr (ci, (List.range N).map (fun k => zsv9 (fun _ => 0) z0R z0I z0J 0 k (zyy ci k)))) : Nat × va_E) = x9 at b1 b2 ew
    have lst : (zws ad' cA S' R' mi' ml' ++ [x9])[(zws ad' cA S' R' mi' ml').length]? = some x9 := by simp
    have lft : ∀ (k : Nat) (q : Nat × va_E), (zws ad' cA S' R' mi' ml')[k]? = some q → (zws ad' cA S' R' mi' ml' ++ [x9])[k]? = some q := fun k q h => by
      rw [List.getElem?_append_left (List.getElem?_eq_some_iff.mp h).1]; exact h
    have one : ∀ (k : Nat) (q : Nat × va_E), ([x9] : va_W)[k]? = some q → k = 0 ∧ q = x9 := fun k q h => by
      match k, h with
      | 0, h => exact ⟨rfl, (Option.some.inj h).symm⟩
      | k + 1, h => simp at h
    refine kk q0 H1 ?_
    unfold lM
    rw [ew]
    refine ⟨fun k q hq => ?_, fun k q hq => b1 k q (lft k q hq), ⟨fun i j p q hp hq _ => ?_, fun k q hq => ?_⟩, ⟨fun i j p q hp hq h => b2.1 i j p q (lft i p hp) (lft j q hq) h, fun k q hq => b2.2 k q (lft k q hq)⟩, fun i j p q hp hq h => ?_, b3, fun _ _ => Nat.zero_le _, hR⟩
    · obtain ⟨-, rfl⟩ := one k q hq
      exact b1 _ _ lst
    · rw [(one i p hp).1, (one j q hq).1]
    · obtain ⟨-, rfl⟩ := one k q hq
      exact b2.2 _ _ lst
    · obtain ⟨-, rfl⟩ := one i p hp
      have := b2.1 _ j _ q lst (lft j q hq) h
      have hlt := (List.getElem?_eq_some_iff.mp hq).1
      omega
variable {S : zS} {R : zR0} {mi : zI} {ml : zJ}
/-- a constructor's call -/
theorem l_ctor (F : lF p s m c b D cA sp) (M : lM D cA s ad S R mi ml ad' S' R' mi' ml' H locs) (hls : ls.size = 4) (hj : j < 258) (hz : zex f 40 j 0 (zent [.ref 0] (zM j).1) [] S R mi ml = some (none, S1, R1, mi1, ml1)) (hlen : (zarg [.ref 0]).length ≤ (zM j).1) (h0 : 0 < S.length)
    (hn : (zY j).1.name = "<init>") (hret : (zY j).2.2 = none) (hl : Cond.methodLink R_law idx (zY j).1 ∈ lw_tbl) (hi : Cond.instanceMethod (zY j).1 ∈ lw_tbl) (hp : (parseMethodDescriptor (zY j).1.desc).map (fun d => d.parameters.length) = some 0)
    (hcat : (rest.map fun v => v.category).sum ≤ 8) (hfit : cells + S1.length ≤ 600000 + S.length ∧ slots + zsl S1 ≤ 7302250 + zsl S) (hdg : decode code pc = .ok (.invokespecial idx, 3))
    (kk : ∀ (ad1 : Nat → Nat) (H1 : Heap) (locs1 : List Loc) (cells1 slots1 : Nat), (∀ c, c < S.length → ad1 c = ad c) → cells1 + S.length = cells + S1.length → slots1 + zsl S = slots + zsl S1 → lM D cA s ad1 S1 R1 mi1 ml1 ad' S' R' mi' ml' H1 locs1 → W p l e room_1 s m #[Value.ref b] below meth c H1 locs1 cells1 slots1 Q (F0 m (pc + 3) ls rest)) :
    W p l e room_1 s m #[Value.ref b] below meth c H locs cells slots Q (F0 m pc ls (.ref (ad 0) :: rest)) := by
  obtain ⟨mc, ms, hmc, hms, b2, hM⟩ := l_met (l := l) (args := []) F M hj hz hlen (fun v hv => absurd hv List.not_mem_nil) h0
  have hpre := l_pre (As := [.ref (ad 0)]) F M
  obtain ⟨g1, g2, g3, g4, g5, g6⟩ := zwj_good (zkm_ok j hj)
  obtain ⟨hx, hb, hml, ho, hts, hK, hE⟩ := id F
  have hT := lw_T hts
  have hfix : CallFix p m c code 4 s #[Value.ref b] zwT R_law := ⟨hx, hb, hml, ho, hT⟩
  have hRoom : (zrm 40 mc ms).frames + 1 ≤ room_1.frames ∧ 8 + ((zM j).1 + 11) + (zrm 40 mc ms).locals ≤ room_1.locals := by
    show 40 + 1 + 1 ≤ 2048 ∧ 8 + ((zM j).1 + 11) + 100 * (40 + 1) ≤ 84000
    omega
  have hcat' : 2 * (F0 m pc ls (.ref (ad 0) :: rest)).monitorRoom + (rest.map fun v => v.category).sum ≤ 8 := by
    show 2 * 0 + _ ≤ 8; omega
  have hf' : cells + mc ≤ room_1.cells ∧ slots + ms ≤ room_1.slots := by
    show cells + mc ≤ 600000 ∧ slots + ms ≤ 7302250
    omega
  have hw : zwj j = Cond.code (zY j).1 (zY j).2.1 (zM j).1 none :: zwT := by unfold zwj; rw [hret]
  have hrun : va_Run p l e room_1 s m #[Value.ref b] below meth c H locs cells slots mc ms (F0 m pc ls (.ref (ad 0) :: rest)) rest (zQc none D cA sp ad S.length (va_A (zws ad cA S R mi ml) H.size) S1 R1 mi1 ml1 [Value.ref (ad 0)].toArray) (va_A (zws ad cA S R mi ml) H.size) := va_runI (As := []) hfix hM ⟨callB_of 0 hT g1 hw rfl rfl (hT _ g2) (hts _ hl) ⟨g4.1, g4.2, hp⟩ hRoom, hn, hts _ hi⟩ ⟨zPre_blind, hpre⟩ rfl rfl hls rfl hcat' hdg hf'
  exact l_back (Or.inl rfl) M b2 hrun (fun ad1 H1 locs1 c1 c2 => kk ad1 H1 locs1 _ _ c1 (by omega) (by omega) c2)
end LST
set_option maxHeartbeats 4000000 in
/-- THE LAW, from its entry -/
theorem whole_start {p : Program} {e : Env} {s : State} {m : MethodId} {below : List Frame} {meth : Method} {c : Code} (l : Launch) (hflags : l.flags = flags0) {b L : Nat} {xs : Nat → Int32} (hL : L ≤ 3072) (C0 : lw_At p s m meth c b L xs) : W p l e room_1 s m #[Value.ref b] below meth c s.heap [] 0 0 (lw_Z below #[Value.ref b] s) (entryFrame m ([Value.ref b] : List Value).toArray 4) := by
  obtain ⟨hx, hb, hr, hml, hown, hts, hX, hbl, hlocks, hgv⟩ := id C0
  obtain ⟨D, cA, hK⟩ := lw_K hts
  obtain ⟨sp, hE⟩ := lw_env hts hgv
  have F : lF p s m c b D cA sp := ⟨hx, hb, hml, hown, hts, hK, hE⟩
  obtain ⟨P, c0, lc, m0, lm, e1, e2, RR⟩ := rl_init
  have e1 : zex 3000 40 0 0 (zent [.ref 0] (zM 0).1) [] [(11, 15)] z0R z0I z0J = some (none, zCS, zCR 23 24 P, c0, lc) := e1
  have e2 : zex 3000 40 155 0 (zent [.ref 0] (zM 155).1) [] [(12, 60)] z0R z0I z0J = some (none, zMS, zMR, m0, lm) := e2
  have hl := lv_entry ([.ref b]) (n := 4) (Nat.le_of_ble_eq_true rfl)
  rw [lg_entry_eq]
  generalize (lg_sl ([.ref b]) ++ List.replicate (4 - (lg_sl ([.ref b])).length) Slot.unset).toArray = ls at hl ⊢
  have hl : lv_has ls 4 [(0, .ref b)] := hl
  have P0 : va_P D zcl (zws (fun _ => 0) cA [] z0R z0I z0J) s.heap := fun k q h => by simp [zws] at h
  have D0 : va_D (lA s) (zws (fun _ => 0) cA [] z0R z0I z0J) := ⟨fun i j p q h => by simp [zws] at h, fun k q h => by simp [zws] at h⟩
  have k0 : zsl zCS + zsl zMS ≤ 400000 := lK0_le
  have u1 : zCS.length = 74 := rfl
  have u2 : zMS.length = 34 := rfl
  have u3 : zsl [((11 : Nat), (15 : Nat))] = 15 := rfl
  have u4 : zsl [((12 : Nat), (60 : Nat))] = 60 := rfl
  refine l_new (ci := 11) (N := 15) (ad' := fun _ => 0) (S' := []) (R' := z0R) (mi' := z0I) (ml' := z0J) F rfl (by decide) P0 D0 va_S.rf (fun _ _ => Nat.le_refl 0) (by decide +kernel) (by decide +kernel) (by decide +kernel) (by decide) ld_p0 (fun q1 H1 M1 => ?_)
  refine lv_dup hx hb ld_p3 rfl ?_
  refine l_ctor (j := 0) (f := 3000) (rest := [.ref q1]) F M1 hl.1 (by decide) e1 (by decide) (by decide) rfl rfl (by decide +kernel) (by decide +kernel) (by decide +kernel) (show 1 ≤ 8 by decide) (by rw [u1, u3]; exact ⟨by decide, by omega⟩) ld_p4 (fun ad1 H2 locs2 cells2 slots2 c1 c2 c3 M2 => ?_)
  rw [u1] at c2
  rw [u3] at c3
  have c2 : cells2 + 1 = 0 + 1 + 74 := c2
  have a1 : ad1 0 = q1 := c1 0 (by decide)
  refine lv_astore_n (lv' := [(1, .ref q1), (0, .ref b)]) hx hb ld_p7 rfl hl (by decide) rfl (fun ls hl => ?_)
  refine l_new (ci := 12) (N := 60) (ad' := ad1) (S' := zCS) (R' := zCR 23 24 P) (mi' := c0) (ml' := lc) F rfl (by decide) M2.1 M2.2.2.1 M2.2.2.2.2.2.1 M2.2.2.2.2.2.2.1 (by decide +kernel) (by decide +kernel) (by decide +kernel) ⟨by omega, by omega⟩ ld_p8 (fun q2 H3 M3 => ?_)
  refine lv_dup hx hb ld_p11 rfl ?_
  refine l_ctor (j := 155) (f := 3000) (rest := [.ref q2]) F M3 hl.1 (by decide) e2 (by decide) (by decide) rfl rfl (by decide +kernel) (by decide +kernel) (by decide +kernel) (show 1 ≤ 8 by decide) (by rw [u2, u4]; exact ⟨by show cells2 + 1 + 34 ≤ 600000 + 1; omega, by omega⟩) ld_p12 (fun ad2 H4 locs4 cells4 slots4 d1 d2 d3 M4 => ?_)
  rw [u2] at d2
  rw [u4] at d3
  have d2 : cells4 + 1 = cells2 + 1 + 34 := d2
  have a2 : ad2 0 = q2 := d1 0 (by decide)
  refine lv_astore_n (lv' := [(2, .ref q2), (1, .ref q1), (0, .ref b)]) hx hb ld_p15 rfl hl (by decide) rfl (fun ls hl => ?_)
  refine lv_iconst (v := 0) hx hb ld_p16 (by decide) ?_
  refine lv_istore_n (lv' := [(3, .int 0), (2, .ref q2), (1, .ref q1), (0, .ref b)]) hx hb ld_p17 rfl hl (by decide) rfl (fun ls hl => ?_)
  refine l_loop F hr hlocks hX hbl hL (L + 1) 0 ad1 ad2 H4 locs4 cells4 slots4 ls (Nat.zero_le L) (by omega) ?_ ⟨[], 23, 24, P, c0, lc, m0, lm, RR, by rw [List.append_nil]; exact M4.swap, Nat.le_refl 0, Nat.le_refl 0, by show cells4 = 108 + 0; omega, by show slots4 = zsl zCS + zsl zMS + 0; omega⟩
  rw [a1, a2]
  exact lv_sub hl [3, 2, 1, 0] rfl
