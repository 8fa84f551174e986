-- @after: 00.privs 01.names 02.code 03.tabs 04.mach 05.rows 06.facts 07.check 09.world 10.inrange 11.step
theorem zhas_mem {w : Cond} (h : zHas w = true) : w ∈ lw_tbl := of_decide_eq_true h
theorem zmem_wT {w : Cond} (h : w ∈ lw_tbl) (hg : goodWord w = true) : w ∈ zwT := List.mem_filter.mpr ⟨h, hg⟩
theorem zhas_tab {args : Array Value} {s : State} {w : Cond} (hts : ∀ w ∈ zwT, w.before args s = true) (h : zHas w = true) (hg : goodWord w = true) : w.before args s = true := hts w (zmem_wT (zhas_mem h) hg)
theorem z_max1 : Cond.static Lib.Math.max.name ∈ zwT := zmem_wT (of_decide_eq_true (by decide +kernel)) rfl
theorem z_max2 : Cond.code Lib.Math.max.name Lib.Math.max.code 2 (some .int) ∈ zwT := zmem_wT (of_decide_eq_true (by decide +kernel)) rfl
theorem z_min1 : Cond.static Lib.Math.min.name ∈ zwT := zmem_wT (of_decide_eq_true (by decide +kernel)) rfl
theorem z_min2 : Cond.code Lib.Math.min.name Lib.Math.min.code 2 (some .int) ∈ zwT := zmem_wT (of_decide_eq_true (by decide +kernel)) rfl
theorem z_math : Cond.initialized "java/lang/Math" ∈ zwT := zmem_wT (of_decide_eq_true (by decide +kernel)) rfl
theorem zmem_wN {w : Cond} (h : w ∈ lw_tbl) (hg : zisN w = true) : w ∈ zwN := List.mem_filter.mpr ⟨h, hg⟩
theorem z_st1 : Cond.fieldLink "OnlyStrangers" 295 "OnlyStrangers" "PAIRS_OF" "[I" ∈ zwT := zmem_wT (of_decide_eq_true (by decide +kernel)) rfl
theorem z_st2 : Cond.fieldLinkNest "OnlyStrangers$Search" 125 "OnlyStrangers" "APART" "[I" "OnlyStrangers" ∈ zwN := zmem_wN (of_decide_eq_true (by decide +kernel)) rfl
theorem z_st3 : Cond.fieldLink "OnlyStrangers" 343 "OnlyStrangers" "KIND_ABOVE" "[I" ∈ zwT := zmem_wT (of_decide_eq_true (by decide +kernel)) rfl
theorem z_st4 : Cond.fieldLinkNest "OnlyStrangers$Search" 85 "OnlyStrangers" "PAIRS_OF" "[I" "OnlyStrangers" ∈ zwN := zmem_wN (of_decide_eq_true (by decide +kernel)) rfl
theorem z_st5 : Cond.fieldLink "java/lang/String" 1053 "jdk/internal/util/Preconditions" "SIOOBE_FORMATTER" "Ljava/util/function/BiFunction;" ∈ zwT := zmem_wT (of_decide_eq_true (by decide +kernel)) rfl
theorem z_obj1 : Cond.instanceMethod Lib.objectInit ∈ zwT := zmem_wT (of_decide_eq_true (by decide +kernel)) rfl
theorem z_obj2 : Cond.code Lib.objectInit ⟨#[0xb1]⟩ 1 none ∈ zwT := zmem_wT (of_decide_eq_true (by decide +kernel)) rfl
section STEP
variable {p : Program} {l : Launch} {e : Env} {Rm : Room} {s : State} {m : MethodId} {args : Array Value} {below : List Frame} {meth : Method} {c : Code} {H : Heap} {locs : List Loc} {cells slots : Nat} {Q : State → Prop}
variable {D : va_G} {cA sp ad : Nat → Nat} {A : Nat → Prop} {j i pc len : Nat} {raw I : Instr} {L st L1 st1 : List Value} {S S1 : zS} {R R1 : zR0} {mi mi1 : zI} {ml ml1 : zJ} {ls : Array Slot} {q : zT}
/-- int arithmetic: the row r of the kit -/
theorem zb_row {f : Int32 → Int32 → Int32} {J : Instr} (hF : zFx j p s m args meth c D cA sp A) (hck : zsame (zR j) i pc raw len 1 J = true) (hdec : len ≠ 0 → decode (zY j).2.1 pc = .ok (raw, len)) (hs : zbi f L st S R mi ml = some q) (hrel : zRel D cA sp ad A s S R mi ml H locs L ls)
    (kk : zKK p l e Rm s m args below meth c cells slots Q D cA sp ad A j i S q)
    (row : ∀ (a b : Int32) (rest : List Value), decode (zY j).2.1 pc = .ok (J, 1) → W p l e Rm s m args below meth c H locs cells slots Q (F0 m (pc + 1) ls (.int (f a b) :: rest)) → W p l e Rm s m args below meth c H locs cells slots Q (F0 m pc ls (.int b :: .int a :: rest))) :
    W p l e Rm s m args below meth c H locs cells slots Q (F0 m pc ls (st.map (zvv ad sp))) := by
  obtain ⟨rfl, rfl, hn⟩ := zsame_spec hck
  obtain ⟨a, b, st', rfl, hq⟩ := zbi_inv hs
  exact row a b _ (hdec (by decide)) (kk.same hrel hq hn)
theorem zbl_row {f : Int64 → Int64 → Int64} {J : Instr} (hF : zFx j p s m args meth c D cA sp A) (hck : zsame (zR j) i pc raw len 1 J = true) (hdec : len ≠ 0 → decode (zY j).2.1 pc = .ok (raw, len)) (hs : zbl f L st S R mi ml = some q) (hrel : zRel D cA sp ad A s S R mi ml H locs L ls)
    (kk : zKK p l e Rm s m args below meth c cells slots Q D cA sp ad A j i S q)
    (row : ∀ (a b : Int64) (rest : List Value), decode (zY j).2.1 pc = .ok (J, 1) → W p l e Rm s m args below meth c H locs cells slots Q (F0 m (pc + 1) ls (.long (f a b) :: rest)) → W p l e Rm s m args below meth c H locs cells slots Q (F0 m pc ls (.long b :: .long a :: rest))) :
    W p l e Rm s m args below meth c H locs cells slots Q (F0 m pc ls (st.map (zvv ad sp))) := by
  obtain ⟨rfl, rfl, hn⟩ := zsame_spec hck
  obtain ⟨a, b, st', rfl, hq⟩ := zbl_inv hs
  exact row a b _ (hdec (by decide)) (kk.same hrel hq hn)
theorem zun_row {f : Int32 → Value} {J : Instr} (hF : zFx j p s m args meth c D cA sp A) (hck : zsame (zR j) i pc raw len 1 J = true) (hdec : len ≠ 0 → decode (zY j).2.1 pc = .ok (raw, len)) (hs : zun f L st S R mi ml = some q) (hrel : zRel D cA sp ad A s S R mi ml H locs L ls)
    (kk : zKK p l e Rm s m args below meth c cells slots Q D cA sp ad A j i S q)
    (row : ∀ (a : Int32) (rest : List Value), decode (zY j).2.1 pc = .ok (J, 1) → W p l e Rm s m args below meth c H locs cells slots Q (F0 m (pc + 1) ls (zvv ad sp (f a) :: rest)) → W p l e Rm s m args below meth c H locs cells slots Q (F0 m pc ls (.int a :: rest))) :
    W p l e Rm s m args below meth c H locs cells slots Q (F0 m pc ls (st.map (zvv ad sp))) := by
  obtain ⟨rfl, rfl, hn⟩ := zsame_spec hck
  obtain ⟨a, st', rfl, hq⟩ := zun_inv hs
  exact row a _ (hdec (by decide)) (kk.same hrel hq hn)
theorem zor_spec {k n1 n2 : Nat} {J1 J2 : Instr} {C : List (Nat × Instr × Nat)} (h : (zsame C i pc raw len n1 J1 || (decide (k < 4) && zsame C i pc raw len n2 J2)) = true) : (raw = J1 ∧ len = n1 ∧ znx C (i + 1) (pc + n1) = true) ∨ (k < 4 ∧ raw = J2 ∧ len = n2 ∧ znx C (i + 1) (pc + n2) = true) := by
  rw [Bool.or_eq_true, Bool.and_eq_true, decide_eq_true_eq] at h
  rcases h with h | ⟨h1, h⟩
  · exact Or.inl (zsame_spec h)
  · exact Or.inr ⟨h1, zsame_spec h⟩
theorem zfin {k : Nat} (h : k < 4) : ((Fin.ofNat 4 k : Fin 4) : Nat) = k := by simp [Fin.ofNat]; omega
theorem zload_inv {k : Nat} {ok : Value → Bool} (h : zload k ok L st S R mi ml = some q) : ∃ v, L[k]? = some v ∧ ok v = true ∧ q = (L, v :: st, S, R, mi, ml) := by
  unfold zload at h
  split at h
  · split at h
    · exact ⟨_, by assumption, by assumption, (Option.some.inj h).symm⟩
    · cases h
  · cases h
theorem zload_row {k : Nat} {ok : Value → Bool} {J1 J2 : Instr} (hF : zFx j p s m args meth c D cA sp A) (hck : (zsame (zR j) i pc raw len 2 J1 || (decide (k < 4) && zsame (zR j) i pc raw len 1 J2)) = true) (hdec : len ≠ 0 → decode (zY j).2.1 pc = .ok (raw, len)) (hs : zload k ok L st S R mi ml = some q) (hrel : zRel D cA sp ad A s S R mi ml H locs L ls)
    (kk : zKK p l e Rm s m args below meth c cells slots Q D cA sp ad A j i S q)
    (row : ∀ (v : Value) (n : Nat), ok v = true → (n = 2 ∧ decode (zY j).2.1 pc = .ok (J1, 2) ∨ n = 1 ∧ k < 4 ∧ decode (zY j).2.1 pc = .ok (J2, 1)) → ls[k]? = some (.val (zvv ad sp v)) → W p l e Rm s m args below meth c H locs cells slots Q (F0 m (pc + n) ls (zvv ad sp v :: st.map (zvv ad sp))) → W p l e Rm s m args below meth c H locs cells slots Q (F0 m pc ls (st.map (zvv ad sp))))
    (hok : ok (.retAddr 0) = false) : W p l e Rm s m args below meth c H locs cells slots Q (F0 m pc ls (st.map (zvv ad sp))) := by
  obtain ⟨v, hv, ho, hq⟩ := zload_inv hs
  have hv0 : v ≠ .retAddr 0 := fun z => by rw [z, hok] at ho; cases ho
  have hl := hrel.2.2.2.2.2 k v hv hv0
  rcases zor_spec hck with ⟨rfl, rfl, hn⟩ | ⟨h4, rfl, rfl, hn⟩
  · exact row v 2 ho (Or.inl ⟨rfl, hdec (by decide)⟩) hl (kk.same (st1 := v :: st) hrel hq hn)
  · exact row v 1 ho (Or.inr ⟨rfl, h4, hdec (by decide)⟩) hl (kk.same (st1 := v :: st) hrel hq hn)
theorem zstore_inv {k : Nat} {ok : Value → Bool} (h : zstore k ok L st S R mi ml = some q) : ∃ v st', st = v :: st' ∧ ok v = true ∧ k < L.length ∧ (zisL v = true → k + 1 < L.length) ∧ q = (zls L k v, st', S, R, mi, ml) := by
  unfold zstore at h
  split at h
  · split at h
    · rename_i hc
      exact ⟨_, _, rfl, hc.1, hc.2.1, hc.2.2, (Option.some.inj h).symm⟩
    · cases h
  · cases h
theorem zstore_row {k : Nat} {ok : Value → Bool} {J1 J2 : Instr} (hF : zFx j p s m args meth c D cA sp A) (hck : (zsame (zR j) i pc raw len 2 J1 || (decide (k < 4) && zsame (zR j) i pc raw len 1 J2)) = true) (hdec : len ≠ 0 → decode (zY j).2.1 pc = .ok (raw, len)) (hs : zstore k ok L st S R mi ml = some q) (hrel : zRel D cA sp ad A s S R mi ml H locs L ls)
    (kk : zKK p l e Rm s m args below meth c cells slots Q D cA sp ad A j i S q)
    (row : ∀ (v : Value) (n : Nat) (rest : List Value), ok v = true → (n = 2 ∧ decode (zY j).2.1 pc = .ok (J1, 2) ∨ n = 1 ∧ k < 4 ∧ decode (zY j).2.1 pc = .ok (J2, 1)) → lv_has ls L.length (zll ad sp L) → k < L.length → (zisL v = true → k + 1 < L.length) →
      (∀ ls1 : Array Slot, zlr ad sp (zls L k v) ls1 → W p l e Rm s m args below meth c H locs cells slots Q (F0 m (pc + n) ls1 rest)) → W p l e Rm s m args below meth c H locs cells slots Q (F0 m pc ls (zvv ad sp v :: rest))) :
    W p l e Rm s m args below meth c H locs cells slots Q (F0 m pc ls (st.map (zvv ad sp))) := by
  obtain ⟨v, st', rfl, ho, hk, hk2, hq⟩ := zstore_inv hs
  rcases zor_spec hck with ⟨rfl, rfl, hn⟩ | ⟨h4, rfl, rfl, hn⟩
  · exact row v 2 _ ho (Or.inl ⟨rfl, hdec (by decide)⟩) hrel.2.2.2.has hk hk2 (fun ls1 h1 => kk.lset hrel hq hn h1)
  · exact row v 1 _ ho (Or.inr ⟨rfl, h4, hdec (by decide)⟩) hrel.2.2.2.has hk hk2 (fun ls1 h1 => kk.lset hrel hq hn h1)
theorem zisI_spec {v : Value} (h : zisI v = true) : ∃ x, v = .int x := by cases v <;> simp [zisI] at h; exact ⟨_, rfl⟩
theorem zisL_spec {v : Value} (h : zisL v = true) : ∃ x, v = .long x := by cases v <;> simp [zisL] at h; exact ⟨_, rfl⟩
/-- what only touches locals and stack -/
def zpl (I : Instr) : Bool := match I with
  | .getfield _ | .putfield _ | .iaload | .laload | .baload | .aaload | .iastore | .lastore | .bastore | .aastore | .arraylength | .new _ | .newarray _ | .anewarray _ | .multianewarray _ _ | .monitorenter => false
  | _ => true
set_option maxHeartbeats 8000000 in
theorem zsim_pl (hF : zFx j p s m args meth c D cA sp A) (hI : zpl I = true) (hck : zck (zM j).2.1 (zR j) i pc raw len I = true) (hdec : len ≠ 0 → decode (zY j).2.1 pc = .ok (raw, len)) (hown : zOwn (zM j).2.1 = (zY j).1.cls) (hml : c.maxLocals = ls.size)
    (hroom : 1 ≤ Rm.frames ∧ 100 ≤ Rm.locals ∧ cells ≤ Rm.cells ∧ slots ≤ Rm.slots)
    (hs : zst I L st S R mi ml = some q) (hrel : zRel D cA sp ad A s S R mi ml H locs L ls)
    (kk : zKK p l e Rm s m args below meth c cells slots Q D cA sp ad A j i S q) : W p l e Rm s m args below meth c H locs cells slots Q (F0 m pc ls (st.map (zvv ad sp))) := by
  obtain ⟨hx, hb, -, hr, ho, hts, hlocks, hnm, hK, hA, hE⟩ := id hF
  cases I
  case iadd => exact zb_row hF hck hdec hs hrel kk (fun a b rest hd k => lv_iadd hx hb hd k)
  case isub => exact zb_row hF hck hdec hs hrel kk (fun a b rest hd k => lv_isub hx hb hd k)
  case imul => exact zb_row hF hck hdec hs hrel kk (fun a b rest hd k => lv_imul hx hb hd k)
  case iand => exact zb_row hF hck hdec hs hrel kk (fun a b rest hd k => lv_iand hx hb hd k)
  case ior => exact zb_row hF hck hdec hs hrel kk (fun a b rest hd k => lv_ior hx hb hd k)
  case ixor => exact zb_row hF hck hdec hs hrel kk (fun a b rest hd k => lv_ixor hx hb hd k)
  case ishl => exact zb_row hF hck hdec hs hrel kk (fun a b rest hd k => lv_ishl hx hb hd k)
  case ishr => exact zb_row hF hck hdec hs hrel kk (fun a b rest hd k => lv_ishr hx hb hd k)
  case iushr => exact zb_row hF hck hdec hs hrel kk (fun a b rest hd k => lv_iushr hx hb hd rfl k)
  case ladd => exact zbl_row hF hck hdec hs hrel kk (fun a b rest hd k => lv_ladd hx hb hd k)
  case lmul => exact zbl_row hF hck hdec hs hrel kk (fun a b rest hd k => lv_lmul hx hb hd k)
  case lxor => exact zbl_row hF hck hdec hs hrel kk (fun a b rest hd k => lv_lxor hx hb hd k)
  case ineg => exact zun_row hF hck hdec hs hrel kk (fun a rest hd k => lv_ineg hx hb hd k)
  case i2l => exact zun_row hF hck hdec hs hrel kk (fun a rest hd k => lv_i2l hx hb hd rfl k)
  case i2b => exact zun_row hF hck hdec hs hrel kk (fun a rest hd k => lv_i2b hx hb hd rfl k)
  case i2s => exact zun_row hF hck hdec hs hrel kk (fun a rest hd k => lv_i2s hx hb hd rfl k)
  case i2c => exact zun_row hF hck hdec hs hrel kk (fun a rest hd k => lv_i2c hx hb hd rfl k)
  case iload n =>
    refine zload_row hF hck hdec hs hrel kk (fun v n hv hd hl k => ?_) rfl
    obtain ⟨x, rfl⟩ := zisI_spec hv
    rcases hd with ⟨rfl, hd⟩ | ⟨rfl, h4, hd⟩
    · exact lv_iload hx hb hd hl k
    · exact lv_iload_n hx hb hd (zfin h4) hl k
  case lload n =>
    refine zload_row hF hck hdec hs hrel kk (fun v n hv hd hl k => ?_) rfl
    obtain ⟨x, rfl⟩ := zisL_spec hv
    rcases hd with ⟨rfl, hd⟩ | ⟨rfl, h4, hd⟩
    · exact lv_lload hx hb hd hl k
    · exact lv_lload_n hx hb hd (zfin h4) hl k
  case aload n =>
    refine zload_row hF hck hdec hs hrel kk (fun v n hv hd hl k => ?_) rfl
    cases v <;> simp [zisA] at hv
    · rcases hd with ⟨rfl, hd⟩ | ⟨rfl, h4, hd⟩
      · exact lv_aloadN hx hb hd hl k
      · exact lv_aload_nN hx hb hd (zfin h4) hl k
    · rcases hd with ⟨rfl, hd⟩ | ⟨rfl, h4, hd⟩
      · exact lv_aload hx hb hd hl k
      · exact lv_aload_n hx hb hd (zfin h4) hl k
    · rename_i n9
      have h9 : zvv ad sp (.retAddr n9) = .null ∨ zvv ad sp (.retAddr n9) = .ref (sp n9) := zsq_or sp n9
      rcases h9 with h9 | h9
      · rw [h9] at hl k
        rcases hd with ⟨rfl, hd⟩ | ⟨rfl, h4, hd⟩
        · exact lv_aloadN hx hb hd hl k
        · exact lv_aload_nN hx hb hd (zfin h4) hl k
      · rw [h9] at hl k
        rcases hd with ⟨rfl, hd⟩ | ⟨rfl, h4, hd⟩
        · exact lv_aload hx hb hd hl k
        · exact lv_aload_n hx hb hd (zfin h4) hl k
  case istore n =>
    refine zstore_row hF hck hdec hs hrel kk (fun v n rest hv hd hl hk hk2 k => ?_)
    obtain ⟨x, rfl⟩ := zisI_spec hv
    rcases hd with ⟨rfl, hd⟩ | ⟨rfl, h4, hd⟩
    · exact lv_istore hx hb hd hl hk rfl (fun ls1 h1 => k ls1 (zlr.store1 rfl hk rfl h1))
    · exact lv_istore_n hx hb hd (zfin h4) hl hk rfl (fun ls1 h1 => k ls1 (zlr.store1 rfl hk rfl h1))
  case lstore n =>
    refine zstore_row hF hck hdec hs hrel kk (fun v n rest hv hd hl hk hk2 k => ?_)
    obtain ⟨x, rfl⟩ := zisL_spec hv
    rcases hd with ⟨rfl, hd⟩ | ⟨rfl, h4, hd⟩
    · exact lv_lstore hx hb hd hl (hk2 rfl) rfl (fun ls1 h1 => k ls1 (zlr.store2 rfl hk rfl h1))
    · exact lv_lstore_n hx hb hd (zfin h4) hl (hk2 rfl) rfl (fun ls1 h1 => k ls1 (zlr.store2 rfl hk rfl h1))
  case astore n =>
    refine zstore_row hF hck hdec hs hrel kk (fun v n rest hv hd hl hk hk2 k => ?_)
    cases v <;> simp [zisA] at hv
    · rcases hd with ⟨rfl, hd⟩ | ⟨rfl, h4, hd⟩
      · exact lv_astoreN hx hb hd hl hk rfl (fun ls1 h1 => k ls1 (zlr.store1 rfl hk rfl h1))
      · exact lv_astore_nN hx hb hd (zfin h4) hl hk rfl (fun ls1 h1 => k ls1 (zlr.store1 rfl hk rfl h1))
    · rcases hd with ⟨rfl, hd⟩ | ⟨rfl, h4, hd⟩
      · exact lv_astore hx hb hd hl hk rfl (fun ls1 h1 => k ls1 (zlr.store1 rfl hk rfl h1))
      · exact lv_astore_n hx hb hd (zfin h4) hl hk rfl (fun ls1 h1 => k ls1 (zlr.store1 rfl hk rfl h1))
    · rename_i n9
      have h9 : zvv ad sp (.retAddr n9) = .null ∨ zvv ad sp (.retAddr n9) = .ref (sp n9) := zsq_or sp n9
      rcases h9 with h9 | h9
      · rw [h9]
        rcases hd with ⟨rfl, hd⟩ | ⟨rfl, h4, hd⟩
        · exact lv_astoreN hx hb hd hl hk rfl (fun ls1 h1 => k ls1 (zlr.store1 (v := .retAddr n9) rfl hk rfl (by rw [h9]; exact h1)))
        · exact lv_astore_nN hx hb hd (zfin h4) hl hk rfl (fun ls1 h1 => k ls1 (zlr.store1 (v := .retAddr n9) rfl hk rfl (by rw [h9]; exact h1)))
      · rw [h9]
        rcases hd with ⟨rfl, hd⟩ | ⟨rfl, h4, hd⟩
        · exact lv_astore hx hb hd hl hk rfl (fun ls1 h1 => k ls1 (zlr.store1 (v := .retAddr n9) rfl hk rfl (by rw [h9]; exact h1)))
        · exact lv_astore_n hx hb hd (zfin h4) hl hk rfl (fun ls1 h1 => k ls1 (zlr.store1 (v := .retAddr n9) rfl hk rfl (by rw [h9]; exact h1)))
  case iconst n =>
    cases hs
    have go : ∀ k, len = k → znx (zR j) (i + 1) (pc + k) = true → (W p l e Rm s m args below meth c H locs cells slots Q (F0 m (pc + k) ls (.int (Int32.ofInt n) :: st.map (zvv ad sp)))) := fun k _ hn => kk.same (st1 := .int (Int32.ofInt n) :: st) hrel rfl hn
    cases raw <;> simp only [zck, Bool.and_eq_true, beq_iff_eq, Bool.false_eq_true] at hck
    case iconst b => obtain ⟨⟨rfl, rfl⟩, hn⟩ := hck; exact lv_iconst hx hb (hdec (by decide)) rfl (go 1 rfl hn)
    case bipush b => obtain ⟨⟨h1, rfl⟩, hn⟩ := hck; exact lv_bipush hx hb (hdec (by decide)) h1 (go 2 rfl hn)
    case sipush b => obtain ⟨⟨h1, rfl⟩, hn⟩ := hck; exact lv_sipush hx hb (hdec (by decide)) h1 (go 3 rfl hn)
    case ldc b => obtain ⟨⟨h1, rfl⟩, hn⟩ := hck; exact lv_ldc hx hb (by rw [hown]; exact ho) (zhas_tab hts h1 rfl) (hdec (by decide)) (go 2 rfl hn)
    case ldc_w b => obtain ⟨⟨h1, rfl⟩, hn⟩ := hck; exact lv_ldcw hx hb (by rw [hown]; exact ho) (zhas_tab hts h1 rfl) (hdec (by decide)) (go 3 rfl hn)
    case getstatic b =>
      obtain ⟨⟨⟨⟨⟨rfl, h2⟩, rfl⟩, h4⟩, rfl⟩, hn⟩ := hck
      rw [h2] at hown
      exact va_gets hx hb hE.2.2.2.1.1 hrel.2.2.1 (own := "java/lang/String") (by rw [← hown] at ho; exact ho) (zhas_tab hts h4 rfl) (fun _ h => h) (hdec (by decide)) (go 3 rfl hn)
  case jsr n =>
    cases hs
    have go : ∀ k, len = k → znx (zR j) (i + 1) (pc + k) = true → (W p l e Rm s m args below meth c H locs cells slots Q (F0 m (pc + k) ls (.long (Int64.ofInt n) :: st.map (zvv ad sp)))) := fun k _ hn => kk.same (st1 := .long (Int64.ofInt n) :: st) hrel rfl hn
    cases raw <;> simp only [zck, Bool.and_eq_true, beq_iff_eq, Bool.false_eq_true] at hck
    case lconst b => obtain ⟨⟨h1, rfl⟩, hn⟩ := hck; exact lv_lconst hx hb (hdec (by decide)) h1 (go 1 rfl hn)
    case ldc2_w b => obtain ⟨⟨h1, rfl⟩, hn⟩ := hck; exact lv_ldc2 hx hb (by rw [hown]; exact ho) (zhas_tab hts h1 rfl) (hdec (by decide)) (go 3 rfl hn)
  case aconst_null =>
    cases hs
    obtain ⟨rfl, rfl, hn⟩ := zsame_spec (J := .aconst_null) (n := 1) (C := zR j) (i := i) (pc := pc) (len := len) (raw := raw) hck
    exact lv_null hx hb (hdec (by decide)) (kk.same (st1 := .null :: st) hrel rfl hn)
  case ret k =>
    cases hs
    simp only [zck, Bool.and_eq_true, beq_iff_eq] at hck
    exact kk.lset hrel rfl hck.2 (hrel.2.2.2.kill k)
  case iinc k n =>
    obtain ⟨rfl, rfl, hn⟩ := zsame_spec (J := .iinc k n) (n := 3) (C := zR j) (i := i) (pc := pc) (len := len) (raw := raw) hck
    simp only [zst] at hs
    split at hs
    · rename_i x hL
      have hlt := (List.getElem?_eq_some_iff.mp hL).1
      obtain ⟨n1, hn1⟩ := List.getElem?_of_mem (zll_mem (ad := ad) (sp := sp) hL (by simp))
      exact lv_iinc hx hb (hdec (by decide)) hrel.2.2.2.has hn1 rfl hlt rfl (fun ls1 h1 => kk.lset hrel (Option.some.inj hs).symm hn (zlr.store1 (v := .int (x + Int32.ofInt n)) rfl hlt rfl h1))
    · cases hs
  case idiv =>
    obtain ⟨rfl, rfl, hn⟩ := zsame_spec (J := .idiv) (n := 1) (C := zR j) (i := i) (pc := pc) (len := len) (raw := raw) hck
    simp only [zst] at hs
    split at hs
    · split at hs
      · cases hs
      · rename_i h0; exact lv_idiv hx hb (hdec (by decide)) h0 (kk.same hrel (Option.some.inj hs).symm hn)
    · cases hs
  case irem =>
    obtain ⟨rfl, rfl, hn⟩ := zsame_spec (J := .irem) (n := 1) (C := zR j) (i := i) (pc := pc) (len := len) (raw := raw) hck
    simp only [zst] at hs
    split at hs
    · split at hs
      · cases hs
      · rename_i h0; exact lv_irem hx hb (hdec (by decide)) h0 (by rw [zrem_i]; exact kk.same hrel (Option.some.inj hs).symm hn)
    · cases hs
  case ldiv =>
    obtain ⟨rfl, rfl, hn⟩ := zsame_spec (J := .ldiv) (n := 1) (C := zR j) (i := i) (pc := pc) (len := len) (raw := raw) hck
    simp only [zst] at hs
    split at hs
    · split at hs
      · cases hs
      · rename_i h0; exact lv_ldiv hx hb (hdec (by decide)) h0 (kk.same hrel (Option.some.inj hs).symm hn)
    · cases hs
  case lrem =>
    obtain ⟨rfl, rfl, hn⟩ := zsame_spec (J := .lrem) (n := 1) (C := zR j) (i := i) (pc := pc) (len := len) (raw := raw) hck
    simp only [zst] at hs
    split at hs
    · split at hs
      · cases hs
      · rename_i h0; exact lv_lrem hx hb (hdec (by decide)) h0 (by rw [zrem_l]; exact kk.same hrel (Option.some.inj hs).symm hn)
    · cases hs
  case lshl =>
    obtain ⟨rfl, rfl, hn⟩ := zsame_spec (J := .lshl) (n := 1) (C := zR j) (i := i) (pc := pc) (len := len) (raw := raw) hck
    simp only [zst] at hs
    split at hs
    · exact lv_lshl hx hb (hdec (by decide)) rfl (kk.same hrel (Option.some.inj hs).symm hn)
    · cases hs
  case lushr =>
    obtain ⟨rfl, rfl, hn⟩ := zsame_spec (J := .lushr) (n := 1) (C := zR j) (i := i) (pc := pc) (len := len) (raw := raw) hck
    simp only [zst] at hs
    split at hs
    · exact lv_lushr hx hb (hdec (by decide)) rfl (kk.same hrel (Option.some.inj hs).symm hn)
    · cases hs
  case lcmp =>
    obtain ⟨rfl, rfl, hn⟩ := zsame_spec (J := .lcmp) (n := 1) (C := zR j) (i := i) (pc := pc) (len := len) (raw := raw) hck
    simp only [zst] at hs
    split at hs
    · exact W.lcmp hx hb (hdec (by decide)) (kk.same hrel (Option.some.inj hs).symm hn)
    · cases hs
  case l2i =>
    obtain ⟨rfl, rfl, hn⟩ := zsame_spec (J := .l2i) (n := 1) (C := zR j) (i := i) (pc := pc) (len := len) (raw := raw) hck
    simp only [zst] at hs
    split at hs
    · exact lv_l2i hx hb (hdec (by decide)) rfl (kk.same hrel (Option.some.inj hs).symm hn)
    · cases hs
  case dup =>
    obtain ⟨rfl, rfl, hn⟩ := zsame_spec (J := .dup) (n := 1) (C := zR j) (i := i) (pc := pc) (len := len) (raw := raw) hck
    simp only [zst] at hs
    split at hs
    · exact lv_dup hx hb (hdec (by decide)) rfl (kk.same hrel (Option.some.inj hs).symm hn)
    · exact lv_dup hx hb (hdec (by decide)) rfl (kk.same hrel (Option.some.inj hs).symm hn)
    · cases hs
  case dup2 =>
    obtain ⟨rfl, rfl, hn⟩ := zsame_spec (J := .dup2) (n := 1) (C := zR j) (i := i) (pc := pc) (len := len) (raw := raw) hck
    simp only [zst] at hs
    split at hs
    · exact lv_dup2_11 hx hb (hdec (by decide)) rfl rfl (kk.same hrel (Option.some.inj hs).symm hn)
    · cases hs
  case pop =>
    obtain ⟨rfl, rfl, hn⟩ := zsame_spec (C := zR j) (i := i) (pc := pc) (len := len) (raw := raw) (J := .pop) (n := 1) hck
    simp only [zst] at hs
    split at hs
    · exact lv_pop hx hb (hdec (by decide)) rfl (kk.same hrel (Option.some.inj hs).symm hn)
    · exact lv_pop hx hb (hdec (by decide)) rfl (kk.same hrel (Option.some.inj hs).symm hn)
    · cases hs
  case pop2 =>
    cases raw <;> simp only [zck, Bool.and_eq_true, beq_iff_eq, Bool.false_eq_true] at hck
    obtain ⟨⟨h1, rfl⟩, hn⟩ := hck
    simp only [zst] at hs
    split at hs
    · rename_i a st'
      split at hs
      · rename_i hc
        have hR : ((st'.map (zvv ad sp)).map fun v => v.category).sum + 12 ≤ Rm.locals := by
          rw [zcat_map]
          have := hroom.2.1
          omega
        exact W.objInit hx hb (by rw [hown]; exact ho) (zhas_tab hts h1 rfl) (hts _ z_obj1) (hts _ z_obj2) rfl hml.symm rfl (hdec (by decide)) hroom.1 (by show 2 * 0 + _ + 12 ≤ _; rw [Nat.mul_zero, Nat.zero_add]; exact hR) (kk.same hrel (Option.some.inj hs).symm hn)
      · cases hs
    · cases hs
  case jsr_w n =>
    cases hs
    have go : ∀ k, len = k → znx (zR j) (i + 1) (pc + k) = true → (W p l e Rm s m args below meth c H locs cells slots Q (F0 m (pc + k) ls (zsq sp n.toNat :: st.map (zvv ad sp)))) := fun k _ hn => kk.same (st1 := .retAddr n.toNat :: st) hrel rfl hn
    have go' : n.toNat ≠ 30 → ∀ k, len = k → znx (zR j) (i + 1) (pc + k) = true → (W p l e Rm s m args below meth c H locs cells slots Q (F0 m (pc + k) ls (.ref (sp n.toNat) :: st.map (zvv ad sp)))) := fun h k a b => by rw [← zsq_ne h]; exact go k a b
    cases raw <;> simp only [zck, Bool.and_eq_true, beq_iff_eq, Bool.false_eq_true, List.contains_eq_mem, decide_eq_true_eq, List.mem_cons, List.not_mem_nil, or_false, Prod.mk.injEq] at hck
    case ldc b =>
      obtain ⟨⟨⟨h0, rfl⟩, hn⟩, h⟩ := hck
      rw [h0] at hown
      rw [← hown] at ho
      obtain ⟨s0, s1, s2, s3, s4, s5, s6⟩ := hE.2.2.2.2.1
      rcases h with ⟨rfl, rfl⟩ | ⟨rfl, rfl⟩ | ⟨rfl, rfl⟩ | ⟨rfl, rfl⟩ | ⟨rfl, rfl⟩ | ⟨rfl, rfl⟩ | ⟨rfl, rfl⟩
      · exact va_ldcS hx hb ho s0 (hdec (by decide)) (go' (by decide) 2 rfl hn)
      · exact va_ldcS hx hb ho s1 (hdec (by decide)) (go' (by decide) 2 rfl hn)
      · exact va_ldcS hx hb ho s2 (hdec (by decide)) (go' (by decide) 2 rfl hn)
      · exact va_ldcS hx hb ho s3 (hdec (by decide)) (go' (by decide) 2 rfl hn)
      · exact va_ldcS hx hb ho s4 (hdec (by decide)) (go' (by decide) 2 rfl hn)
      · exact va_ldcS hx hb ho s5 (hdec (by decide)) (go' (by decide) 2 rfl hn)
      · exact va_ldcS hx hb ho s6 (hdec (by decide)) (go' (by decide) 2 rfl hn)
    case getstatic b =>
      obtain ⟨⟨rfl, hn⟩, h⟩ := hck
      obtain ⟨z1, z2, z3⟩ := hE.2.1
      rcases h with ⟨rfl, h0, rfl⟩ | ⟨rfl, h0, rfl⟩ | ⟨rfl, h0, rfl⟩ | ⟨rfl, h0, rfl⟩ | ⟨rfl, h0, rfl⟩
      all_goals rw [h0] at hown; rw [← hown] at ho
      · exact va_gets hx hb z1 hrel.2.2.1 ho (hts _ z_st1) (fun _ h => h) (hdec (by decide)) (go' (by decide) 3 rfl hn)
      · exact va_getsN hx hb z2 hrel.2.2.1 ho ((hE.1.1 _ z_st2).use rfl) (fun _ h => h) (hdec (by decide)) (go' (by decide) 3 rfl hn)
      · exact va_gets hx hb z3 hrel.2.2.1 ho (hts _ z_st3) (fun _ h => h) (hdec (by decide)) (go' (by decide) 3 rfl hn)
      · exact va_getsN hx hb z1 hrel.2.2.1 ho ((hE.1.1 _ z_st4).use rfl) (fun _ h => h) (hdec (by decide)) (go' (by decide) 3 rfl hn)
      · exact va_gets hx hb hE.2.2.2.1.2 hrel.2.2.1 ho (hts _ z_st5) (fun _ h => h) (hdec (by decide)) (go 3 rfl hn)
  case dadd =>
    cases raw <;> simp only [zck, Bool.and_eq_true, beq_iff_eq, Bool.false_eq_true] at hck
    obtain ⟨⟨h1, rfl⟩, hn⟩ := hck
    obtain ⟨a, b, st', rfl, hq, hc⟩ := zbg_inv hs
    have hR : ((st'.map (zvv ad sp)).map fun v => v.category).sum + 13 ≤ Rm.locals := by
      rw [zcat_map]
      have := hroom.2.1
      omega
    exact va_mmax hx hb hml (by rw [hown]; exact ho) (zhas_tab hts h1 rfl) (hts _ z_max1) (hts _ z_math) (hts _ z_max2) hroom.1 hR hroom.2.2.1 hroom.2.2.2 (hdec (by decide)) (kk.same hrel hq hn)
  case dsub =>
    cases raw <;> simp only [zck, Bool.and_eq_true, beq_iff_eq, Bool.false_eq_true] at hck
    obtain ⟨⟨h1, rfl⟩, hn⟩ := hck
    obtain ⟨a, b, st', rfl, hq, hc⟩ := zbg_inv hs
    have hR : ((st'.map (zvv ad sp)).map fun v => v.category).sum + 13 ≤ Rm.locals := by
      rw [zcat_map]
      have := hroom.2.1
      omega
    exact va_mmin hx hb hml (by rw [hown]; exact ho) (zhas_tab hts h1 rfl) (hts _ z_min1) (hts _ z_math) (hts _ z_min2) hroom.1 hR hroom.2.2.1 hroom.2.2.2 (hdec (by decide)) (kk.same hrel hq hn)
  all_goals first
    | (cases hI; done)
    | (cases hs; done)
    | (simp only [zst] at hs; cases hs; done)
end STEP
