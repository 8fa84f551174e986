-- @after: 00.privs 01.names 02.code 03.tabs 04.mach 05.rows 06.facts 07.check 09.world 10.inrange 11.step 12.step2 13.step3
/-! rows (arrays) -/
theorem zin_vp {i : Int32} {n : Nat} (h : zin i n = true) : vp_in i n := (of_decide_eq_true (show decide (¬ (i < 0 ∨ n ≤ i.toNatClampNeg)) = true from h) : ¬ (i < 0 ∨ n ≤ i.toNatClampNeg))
theorem zstr_tab {k : Nat} (h : k < 7) : zLen.getD k 0 = (zTab (20 + k)).length ∧ zByt.getD k [] = zTab (20 + k) := by
  match k, h with
  | 0, _ => exact ⟨rfl, rfl⟩
  | 1, _ => exact ⟨rfl, rfl⟩
  | 2, _ => exact ⟨rfl, rfl⟩
  | 3, _ => exact ⟨rfl, rfl⟩
  | 4, _ => exact ⟨rfl, rfl⟩
  | 5, _ => exact ⟨rfl, rfl⟩
  | 6, _ => exact ⟨rfl, rfl⟩
section STEP
variable {p : Program} {l : Launch} {e : Env} {Rm : Room} {s : State} {m : MethodId} {args : Array Value} {below : List Frame} {meth : Method} {c : Code} {H : Heap} {locs : List Loc} {cells slots : Nat} {Q : State → Prop}
variable {D : va_G} {cA sp ad : Nat → Nat} {A : Nat → Prop} {j i pc len : Nat} {raw I : Instr} {L st L1 st1 : List Value} {S S1 : zS} {R R1 : zR0} {mi mi1 : zI} {ml ml1 : zJ} {ls : Array Slot} {q : zT}
theorem zaldA {cc : ByteArray} {cl : List vw_C} {tys : List (ClassId × FieldType)} {ws : va_W} {a : Nat} {rest : List Value} (hexec : p.tables.exec = Jvm.exec) (hb : c.code = cc) (hK : va_K D cl tys s) (hP : va_P D cl ws H) (q0 t0 : Nat) {cB : ClassId} {ty : FieldType} {n : Nat} {f : Nat → Option Nat} (ha : ws[q0]? = some (a, .inl (cB, n, .inr (.inr (.inr (.inr f)))))) (ht : tys[t0]? = some (cB, .array ty)) {i : Int32} (hin : vp_in i n) (hdg : decode cc pc = .ok (.aaload, 1))
    (kk : W p l e Rm s m args below meth c H locs cells slots Q (F0 m (pc + 1) ls (va_rf (f i.toNatClampNeg) :: rest))) : W p l e Rm s m args below meth c H locs cells slots Q (F0 m pc ls (.int i :: .ref a :: rest)) := by
  have hlt : i.toNatClampNeg < n := Nat.not_le.mp fun q => hin (Or.inr q)
  exact W.aald (v := va_rf (f i.toNatClampNeg)) (ty := .array ty) hexec hb (hP q0 _ ha) ((hK.2 t0 _ ht).1 n (fun j => va_rf (f j))) rfl (fun q => by cases q) (by show ¬ (i < 0 ∨ (arrV _ _ _).slots.size ≤ _); rw [arrV_size]; exact hin) (by show (arrV _ _ _).slots[_]? = _; rw [arrV_read _ _ hlt]) rfl rfl hdg kk
/-- the loads: rows of the kit by kind -/
theorem zald_row {ks : List Nat} {J : Instr} (hF : zFx j p s m args meth c D cA sp A) (hck : zsame (zR j) i pc raw len 1 J = true) (hJ : J = .iaload ∧ ks = [100] ∨ J = .laload ∧ ks = [101] ∨ J = .baload ∧ ks = [102, 103] ∨ J = .aaload ∧ ks = [104, 105, 106, 107, 108]) (hdec : len ≠ 0 → decode (zY j).2.1 pc = .ok (raw, len))
    (hs : zald ks L st S R mi ml = some q) (hrel : zRel D cA sp ad A s S R mi ml H locs L ls)
    (kk : zKK p l e Rm s m args below meth c cells slots Q D cA sp ad A j i S q) : W p l e Rm s m args below meth c H locs cells slots Q (F0 m pc ls (st.map (zvv ad sp))) := by
  obtain ⟨hx, hb, -, hr, ho, hts, hlocks, hnm, hK, hA, hE⟩ := id hF
  obtain ⟨rfl, rfl, hn⟩ := zsame_spec hck
  have hd := hdec (by decide)
  unfold zald at hs
  split at hs
  · rename_i x cc st'
    split at hs
    · rename_i ci n hS
      split at hs
      · rename_i hg
        have hin := zin_vp hg.2
        have hws := zws_at (ad := ad) (cA := cA) (R := R) (mi := mi) (ml := ml) hS
        have hqA : ∀ v, zvv ad sp v = va_rf (zrf ad (R cc x.toNatClampNeg)) → q = (L, v :: st', S, R, mi, ml) → W p l e Rm s m args below meth c H locs cells slots Q (F0 m (pc + 1) ls (va_rf (zrf ad (R cc x.toNatClampNeg)) :: st'.map (zvv ad sp))) := by
          intro v hv hq
          rw [← hv]
          exact kk.same hrel hq hn
        rcases hJ with ⟨rfl, rfl⟩ | ⟨rfl, rfl⟩ | ⟨rfl, rfl⟩ | ⟨rfl, rfl⟩
        · have hc : ci = 100 := by simpa using hg.1
          subst hc
          exact va_iald hx hb hK hrel.1 cc 0 hws rfl hin hd (kk.same hrel (Option.some.inj hs).symm hn)
        · have hc : ci = 101 := by simpa using hg.1
          subst hc
          exact va_lald hx hb hK hrel.1 cc 1 hws rfl hin hd (kk.same hrel (Option.some.inj hs).symm hn)
        · have hc : ci = 102 ∨ ci = 103 := by simpa using hg.1
          rcases hc with rfl | rfl
          · exact va_bald hx hb hK hrel.1 cc 2 hws rfl hin hd (kk.same hrel (Option.some.inj hs).symm hn)
          · exact va_zald hx hb hK hrel.1 cc 3 hws rfl hin hd (kk.same hrel (Option.some.inj hs).symm hn)
        · have hc : ci = 104 ∨ ci = 105 ∨ ci = 106 ∨ ci = 107 ∨ ci = 108 := by simpa using hg.1
          rcases hc with rfl | rfl | rfl | rfl | rfl
          · exact va_aldq hx hb hK hrel.1 cc 4 hws rfl hin hd (hqA _ (zvv_zrv _ _ _) (Option.some.inj hs).symm)
          · exact va_aldq hx hb hK hrel.1 cc 5 hws rfl hin hd (hqA _ (zvv_zrv _ _ _) (Option.some.inj hs).symm)
          · exact va_aldq hx hb hK hrel.1 cc 6 hws rfl hin hd (hqA _ (zvv_zrv _ _ _) (Option.some.inj hs).symm)
          · exact zaldA hx hb hK hrel.1 cc 7 hws rfl hin hd (hqA _ (zvv_zrv _ _ _) (Option.some.inj hs).symm)
          · exact zaldA hx hb hK hrel.1 cc 8 hws rfl hin hd (hqA _ (zvv_zrv _ _ _) (Option.some.inj hs).symm)
      · cases hs
    · cases hs
  · rename_i x n st'
    split at hs
    · rename_i hg
      have hin := zin_vp hg.2
      rcases hJ with ⟨rfl, rfl⟩ | ⟨rfl, rfl⟩ | ⟨rfl, rfl⟩ | ⟨rfl, rfl⟩
      · have h3 : 1 ≤ n ∧ n ≤ 3 := by
          rcases hg.1 with z | z
          · exact z.2
          · simp at z
        rw [zsq_map2 (by omega)]
        exact va_ti hx hb (hE.2.2.1 n h3.1 h3.2) hrel.2.2.1 hin rfl hd (kk.same hrel (Option.some.inj hs).symm hn)
      · simp at hg
      · have h3 : 20 ≤ n ∧ n ≤ 26 := by
          rcases hg.1 with z | z
          · simp at z
          · exact z.2
        obtain ⟨k, hk, rfl⟩ : ∃ k, k < 7 ∧ n = 20 + k := ⟨n - 20, by omega, by omega⟩
        obtain ⟨-, -, -, b4⟩ := hE.2.2.2.2.2.1 k hk
        rw [(zstr_tab hk).1, (zstr_tab hk).2] at b4
        rw [zsq_map2 (by omega)]
        exact va_tb hx hb b4 hrel.2.2.1 hin rfl hd (kk.same hrel (Option.some.inj hs).symm hn)
      · simp at hg
    · cases hs
  · cases hs
theorem zalen_row (hF : zFx j p s m args meth c D cA sp A) (hck : zsame (zR j) i pc raw len 1 .arraylength = true) (hdec : len ≠ 0 → decode (zY j).2.1 pc = .ok (raw, len))
    (hs : zalen L st S R mi ml = some q) (hrel : zRel D cA sp ad A s S R mi ml H locs L ls)
    (kk : zKK p l e Rm s m args below meth c cells slots Q D cA sp ad A j i S q) : W p l e Rm s m args below meth c H locs cells slots Q (F0 m pc ls (st.map (zvv ad sp))) := by
  obtain ⟨hx, hb, -, hr, ho, hts, hlocks, hnm, hK, hA, hE⟩ := id hF
  obtain ⟨rfl, rfl, hn⟩ := zsame_spec hck
  have hd := hdec (by decide)
  unfold zalen at hs
  split at hs
  · rename_i cc st'
    split at hs
    · rename_i ci n hS
      split at hs
      · rename_i hg
        have hws := zws_at (ad := ad) (cA := cA) (R := R) (mi := mi) (ml := ml) hS
        have hc : ci = 100 ∨ ci = 101 ∨ ci = 102 ∨ ci = 103 ∨ ci = 104 ∨ ci = 105 ∨ ci = 106 ∨ ci = 107 ∨ ci = 108 := by omega
        rcases hc with rfl | rfl | rfl | rfl | rfl | rfl | rfl | rfl | rfl
        · exact va_alen hx hb hK hrel.1 cc 0 hws rfl rfl hd (kk.same hrel (Option.some.inj hs).symm hn)
        · exact va_alen hx hb hK hrel.1 cc 1 hws rfl rfl hd (kk.same hrel (Option.some.inj hs).symm hn)
        · exact va_alen hx hb hK hrel.1 cc 2 hws rfl rfl hd (kk.same hrel (Option.some.inj hs).symm hn)
        · exact va_alen hx hb hK hrel.1 cc 3 hws rfl rfl hd (kk.same hrel (Option.some.inj hs).symm hn)
        · exact va_alen hx hb hK hrel.1 cc 4 hws rfl rfl hd (kk.same hrel (Option.some.inj hs).symm hn)
        · exact va_alen hx hb hK hrel.1 cc 5 hws rfl rfl hd (kk.same hrel (Option.some.inj hs).symm hn)
        · exact va_alen hx hb hK hrel.1 cc 6 hws rfl rfl hd (kk.same hrel (Option.some.inj hs).symm hn)
        · exact va_alen hx hb hK hrel.1 cc 7 hws rfl rfl hd (kk.same hrel (Option.some.inj hs).symm hn)
        · exact va_alen hx hb hK hrel.1 cc 8 hws rfl rfl hd (kk.same hrel (Option.some.inj hs).symm hn)
      · cases hs
    · cases hs
  · rename_i n st'
    split at hs
    · rename_i hg
      rcases hg with hg | hg
      · rw [zsq_map (by omega)]
        exact va_tlen hx hb (hE.2.2.1 n hg.1 hg.2) hrel.2.2.1 rfl hd (kk.same hrel (Option.some.inj hs).symm hn)
      · obtain ⟨k, hk, rfl⟩ : ∃ k, k < 7 ∧ n = 20 + k := ⟨n - 20, by omega, by omega⟩
        obtain ⟨-, -, -, b4⟩ := hE.2.2.2.2.2.1 k hk
        rw [(zstr_tab hk).1, (zstr_tab hk).2] at b4
        rw [zsq_map (by omega)]
        exact va_tlen hx hb b4 hrel.2.2.1 rfl hd (kk.same hrel (Option.some.inj hs).symm hn)
    · cases hs
  · cases hs
end STEP
