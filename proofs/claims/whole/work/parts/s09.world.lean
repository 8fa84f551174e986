-- @after: 00.privs 01.names 02.code 03.tabs 04.mach 05.rows 06.facts 07.check
/-! The real heap as the pure machine's cells: ad c the address of the cell c, sp n that of the special n, cA k the class of the rows of kind k -/
def zyy (ci : Nat) : Nat → FieldType := match ci with
  | 0 => zy0
  | 1 => zy1
  | 2 => zy2
  | 3 => zy3
  | 4 => zy4
  | 5 => zy5
  | 6 => zy6
  | 7 => zy7
  | 8 => zy8
  | 9 => zy9
  | 10 => zy10
  | 11 => zy11
  | 12 => zy12
  | _ => fun _ => .int
def zrn (n : Nat) : Option Nat := match n with
  | 0 => none
  | c + 1 => some c
/-- a special: the one of 30 may be null (then sp 31 is 0) -/
def zsq (sp : Nat → Nat) (n : Nat) : Value := if n = 30 ∧ sp 31 = 0 then .null else .ref (sp n)
theorem zsq_ne {sp : Nat → Nat} {n : Nat} (h : n ≠ 30) : zsq sp n = .ref (sp n) := if_neg (fun q => h q.1)
theorem zsq_or (sp : Nat → Nat) (n : Nat) : zsq sp n = .null ∨ zsq sp n = .ref (sp n) := by
  unfold zsq
  split
  · exact Or.inl rfl
  · exact Or.inr rfl
def zvv (ad sp : Nat → Nat) (v : Value) : Value := match v with
  | .ref c => .ref (ad c)
  | .retAddr n => zsq sp n
  | v => v
theorem zsq_map {ad sp : Nat → Nat} {n : Nat} {st : List Value} (h : n ≠ 30) : (Value.retAddr n :: st).map (zvv ad sp) = .ref (sp n) :: st.map (zvv ad sp) := by
  show zsq sp n :: st.map (zvv ad sp) = _
  rw [zsq_ne h]
theorem zsq_map2 {ad sp : Nat → Nat} {n : Nat} {x : Int32} {st : List Value} (h : n ≠ 30) : (Value.int x :: .retAddr n :: st).map (zvv ad sp) = .int x :: .ref (sp n) :: st.map (zvv ad sp) := by
  show Value.int x :: zsq sp n :: st.map (zvv ad sp) = _
  rw [zsq_ne h]
def zrf (ad : Nat → Nat) (n : Nat) : Option Nat := (zrn n).map ad
theorem zvv_zrv (ad sp : Nat → Nat) (n : Nat) : zvv ad sp (zrv n) = va_rf (zrf ad n) := by cases n <;> rfl
def zsv9 (ad : Nat → Nat) (R : zR0) (mi : zI) (ml : zJ) (c k : Nat) (ty : FieldType) : Value := match ty with
  | .long => .long (ml c k)
  | .object _ => va_rf (zrf ad (R c k))
  | .array _ => va_rf (zrf ad (R c k))
  | _ => .int (mi c k)
def zce (ad cA : Nat → Nat) (R : zR0) (mi : zI) (ml : zJ) (c : Nat) (q : Nat × Nat) : va_E := match q.1 with
  | 100 => .inl (cA 100, q.2, .inl (mi c))
  | 101 => .inl (cA 101, q.2, .inr (.inl (ml c)))
  | 102 => .inl (cA 102, q.2, .inl (mi c))
  | 103 => .inl (cA 103, q.2, .inl (mi c))
  | 104 => .inl (cA 104, q.2, .inr (.inr (.inr (.inr (fun k => zrf ad (R c k))))))
  | 105 => .inl (cA 105, q.2, .inr (.inr (.inr (.inr (fun k => zrf ad (R c k))))))
  | 106 => .inl (cA 106, q.2, .inr (.inr (.inr (.inr (fun k => zrf ad (R c k))))))
  | 107 => .inl (cA 107, q.2, .inr (.inr (.inr (.inr (fun k => zrf ad (R c k))))))
  | 108 => .inl (cA 108, q.2, .inr (.inr (.inr (.inr (fun k => zrf ad (R c k))))))
  | ci => .inr (ci, (List.range q.2).map (fun k => zsv9 ad R mi ml c k (zyy ci k)))
def zws (ad cA : Nat → Nat) (S : zS) (R : zR0) (mi : zI) (ml : zJ) : va_W := S.mapIdx (fun c q => (ad c, zce ad cA R mi ml c q))
theorem zws_at {ad cA : Nat → Nat} {S : zS} {R : zR0} {mi : zI} {ml : zJ} {c : Nat} {q : Nat × Nat} (h : S[c]? = some q) : (zws ad cA S R mi ml)[c]? = some (ad c, zce ad cA R mi ml c q) := by
  simp [zws, List.getElem?_mapIdx, h]
theorem zws_len {ad cA : Nat → Nat} {S : zS} {R : zR0} {mi : zI} {ml : zJ} : (zws ad cA S R mi ml).length = S.length := by simp [zws]
theorem zws_upd {ad cA : Nat → Nat} {S : zS} {R R' : zR0} {mi mi' : zI} {ml ml' : zJ} {c : Nat} {q : Nat × Nat} {e : va_E} (hq : S[c]? = some q) (he : zce ad cA R' mi' ml' c q = e) (h : ∀ c' q', c' ≠ c → zce ad cA R' mi' ml' c' q' = zce ad cA R mi ml c' q') :
    zws ad cA S R' mi' ml' = (zws ad cA S R mi ml).set c (ad c, e) := by
  subst he
  apply List.ext_getElem?
  intro i
  rw [List.getElem?_set]
  by_cases hi : c = i
  · subst hi
    rw [if_pos rfl, zws_at hq, zws_len, if_pos (List.getElem?_eq_some_iff.mp hq).1]
  · rw [if_neg hi]
    simp only [zws, List.getElem?_mapIdx]
    cases hs : S[i]? with
    | none => rfl
    | some q' => simp only [Option.map_some]; rw [h i q' (fun z => hi z.symm)]
theorem zuc_ne {α : Type} {f : Nat → Nat → α} {c k : Nat} {v : α} {a : Nat} (h : a ≠ c) : zu f c k v a = f a := by
  funext b; simp [zu, h]
theorem zu_at {f : Nat → Nat → Int32} {c k : Nat} {v : Int32} : zu f c k v c = upd (f c) k v := by
  funext b; simp [zu, upd]
theorem zu_atL {f : Nat → Nat → Int64} {c k : Nat} {v : Int64} : zu f c k v c = vp_updL (f c) k v := by
  funext b; simp [zu, vp_updL]
theorem zce_mi {ad cA : Nat → Nat} {R : zR0} {mi mi' : zI} {ml : zJ} {c : Nat} {q : Nat × Nat} (h : mi' c = mi c) : zce ad cA R mi' ml c q = zce ad cA R mi ml c q := by
  unfold zce zsv9; simp only [h]
theorem zce_ml {ad cA : Nat → Nat} {R : zR0} {mi : zI} {ml ml' : zJ} {c : Nat} {q : Nat × Nat} (h : ml' c = ml c) : zce ad cA R mi ml' c q = zce ad cA R mi ml c q := by
  unfold zce zsv9; simp only [h]
theorem zce_R {ad cA : Nat → Nat} {R R' : zR0} {mi : zI} {ml : zJ} {c : Nat} {q : Nat × Nat} (h : R' c = R c) : zce ad cA R' mi ml c q = zce ad cA R mi ml c q := by
  unfold zce zsv9; simp only [h]
/-- in bounds: every reference is a cell -/
def zok (n : Nat) (v : Value) : Prop := match v with
  | .ref c => c < n
  | _ => True
theorem zrf_ad {ad ad' : Nat → Nat} {n m : Nat} (h : ∀ c, c < n → ad' c = ad c) (hm : m ≤ n) : zrf ad' m = zrf ad m := by
  cases m with
  | zero => rfl
  | succ m => simp [zrf, zrn, h m (by omega)]
theorem zvv_ad {ad ad' sp : Nat → Nat} {n : Nat} {v : Value} (h : ∀ c, c < n → ad' c = ad c) (hv : zok n v) : zvv ad' sp v = zvv ad sp v := by
  cases v <;> simp_all [zvv, zok]
theorem zce_ad {ad ad' cA : Nat → Nat} {R : zR0} {mi : zI} {ml : zJ} {c n : Nat} {q : Nat × Nat} (h : ∀ c, c < n → ad' c = ad c) (hR : ∀ k, R c k ≤ n) : zce ad' cA R mi ml c q = zce ad cA R mi ml c q := by
  have e : ∀ k, zrf ad' (R c k) = zrf ad (R c k) := fun k => zrf_ad h (hR k)
  unfold zce zsv9; simp only [e]
theorem zws_app {ad ad' cA : Nat → Nat} {S X : zS} {R R' : zR0} {mi mi' : zI} {ml ml' : zJ} (h : ∀ c, c < S.length → ad' c = ad c) (hR : ∀ c k, R c k ≤ S.length) (h1 : ∀ c, c < S.length → R' c = R c) (h2 : ∀ c, c < S.length → mi' c = mi c) (h3 : ∀ c, c < S.length → ml' c = ml c) :
    zws ad' cA (S ++ X) R' mi' ml' = zws ad cA S R mi ml ++ X.mapIdx (fun i q => (ad' (S.length + i), zce ad' cA R' mi' ml' (S.length + i) q)) := by
  apply List.ext_getElem?
  intro i
  by_cases hi : i < S.length
  · rw [List.getElem?_append_left (by rw [zws_len]; exact hi)]
    simp only [zws, List.getElem?_mapIdx, List.getElem?_append_left hi]
    cases hs : S[i]? with
    | none => rfl
    | some q => simp only [Option.map_some]; rw [h i hi, zce_R (h1 i hi), zce_mi (h2 i hi), zce_ml (h3 i hi), zce_ad h (hR i)]
  · have hi' : S.length ≤ i := Nat.not_lt.mp hi
    rw [List.getElem?_append_right (by rw [zws_len]; exact hi'), zws_len]
    simp only [zws, List.getElem?_mapIdx, List.getElem?_append_right hi']
    have e : S.length + (i - S.length) = i := by omega
    rw [e]
def ztys (cA : Nat → Nat) : List (ClassId × FieldType) := [(cA 100, .int), (cA 101, .long), (cA 102, .byte), (cA 103, .boolean), (cA 104, .object "OnlyStrangers$Scene"), (cA 105, .object "OnlyStrangers$Parish"), (cA 106, .object "OnlyStrangers$Plan"), (cA 107, .array .long), (cA 108, .array .int)]
/-- the locals -/
def zlr (ad sp : Nat → Nat) (L : List Value) (ls : Array Slot) : Prop := ls.size = L.length ∧ lv_wf ls ∧ ∀ (i : Nat) (v : Value), L[i]? = some v → v ≠ .retAddr 0 → ls[i]? = some (.val (zvv ad sp v))
def zll (ad sp : Nat → Nat) (L : List Value) : List (Nat × Value) := ((List.range L.length).filter (fun i => decide (L[i]? ≠ some (.retAddr 0)))).map (fun i => (i, zvv ad sp (L.getD i .null)))
theorem zlr.has {ad sp : Nat → Nat} {L : List Value} {ls : Array Slot} (h : zlr ad sp L ls) : lv_has ls L.length (zll ad sp L) := by
  refine ⟨h.1, h.2.1, fun q hq => ?_⟩
  obtain ⟨i, hi, rfl⟩ := List.mem_map.mp hq
  obtain ⟨h1, h2⟩ := List.mem_filter.mp hi
  have h1 := List.mem_range.mp h1
  have h3 : L[i]? = some (L.getD i .null) := by simp [List.getD_eq_getElem?_getD, h1]
  refine h.2.2 i _ h3 (fun z => ?_)
  rw [z] at h3
  simp [h3] at h2
theorem zll_mem {ad sp : Nat → Nat} {L : List Value} {i : Nat} {v : Value} (h : L[i]? = some v) (hv : v ≠ .retAddr 0) : (i, zvv ad sp v) ∈ zll ad sp L := by
  have hl := (List.getElem?_eq_some_iff.mp h).1
  refine List.mem_map.mpr ⟨i, List.mem_filter.mpr ⟨List.mem_range.mpr hl, ?_⟩, ?_⟩
  · simp only [decide_eq_true_eq, h]
    intro z; exact hv (Option.some.inj z)
  · simp [List.getD_eq_getElem?_getD, h]
theorem zvv_cat {ad sp : Nat → Nat} (v : Value) : (zvv ad sp v).category = v.category := by
  cases v with
  | retAddr n => rcases zsq_or sp n with h | h <;> (show (zsq sp n).category = 1; rw [h]; rfl)
  | _ => rfl
theorem zls_len {L : List Value} {i : Nat} {v : Value} : (zls L i v).length = L.length := by
  unfold zls
  cases i with
  | zero => dsimp only; split <;> simp
  | succ k =>
    dsimp only
    cases hk : L[k]? with
    | none => dsimp only; split <;> simp
    | some w => dsimp only; split <;> split <;> simp
/-- a place of the locals behind a store of one slot -/
theorem zls_get {L : List Value} {i n : Nat} {v w : Value} (hv : v.category = 1) (h : (zls L i v)[n]? = some w) (hw : w ≠ .retAddr 0) (hn : n ≠ i) : L[n]? = some w ∧ ¬ (n + 1 = i ∧ w.category = 2) := by
  have hv2 : ¬ v.category = 2 := by omega
  unfold zls at h
  simp only [if_neg hv2] at h
  rw [List.getElem?_set_ne (fun z => hn z.symm)] at h
  cases i with
  | zero => exact ⟨h, fun q => by omega⟩
  | succ k =>
    dsimp only at h
    cases hk : L[k]? with
    | none =>
      simp only [hk] at h
      refine ⟨h, fun q => ?_⟩
      have : n = k := by omega
      subst this
      rw [hk] at h; cases h
    | some z =>
      simp only [hk] at h
      split at h
      · rename_i hz
        by_cases hnk : n = k
        · subst hnk
          rw [List.getElem?_set] at h
          simp only [if_true] at h
          split at h
          · exact absurd (Option.some.inj h).symm hw
          · cases h
        · rw [List.getElem?_set_ne (fun z => hnk z.symm)] at h
          exact ⟨h, fun q => hnk (by omega)⟩
      · rename_i hz
        refine ⟨h, fun q => ?_⟩
        have : n = k := by omega
        subst this
        rw [hk] at h
        rw [← Option.some.inj h] at q
        exact hz q.2
theorem zls_self {L : List Value} {i : Nat} {v w : Value} (hv : v.category = 1) (h : (zls L i v)[i]? = some w) : w = v := by
  have hv2 : ¬ v.category = 2 := by omega
  have key : ∀ L1 : List Value, (L1.set i v)[i]? = some w → w = v := by
    intro L1 h1
    have hlt := (List.getElem?_eq_some_iff.mp h1).1
    rw [List.length_set] at hlt
    rw [List.getElem?_set_self hlt] at h1
    exact (Option.some.inj h1).symm
  unfold zls at h
  simp only [if_neg hv2] at h
  exact key _ h
theorem zlr.store1 {ad sp : Nat → Nat} {L : List Value} {ls' : Array Slot} {i : Nat} {v : Value} {lv : List (Nat × Value)} (hlv : lv = zll ad sp L) (hi : i < L.length) (hc : v.category = 1) (h : lv_has ls' L.length ((i, zvv ad sp v) :: lv.filter (fun q => !(q.1 == i) && !(q.1 + 1 == i && q.2.category == 2)))) : zlr ad sp (zls L i v) ls' := by
  subst hlv
  refine ⟨by rw [zls_len]; exact h.1, h.2.1, fun n w hn hw => ?_⟩
  by_cases e : n = i
  · subst e
    have := zls_self hc hn
    subst this
    exact h.2.2 _ List.mem_cons_self
  · obtain ⟨h1, h2⟩ := zls_get hc hn hw e
    refine h.2.2 (n, zvv ad sp w) (List.mem_cons_of_mem _ (List.mem_filter.mpr ⟨zll_mem h1 hw, ?_⟩))
    simp only [zvv_cat]
    simp only [Bool.and_eq_true, Bool.not_eq_true', beq_eq_false_iff_ne, ne_eq, Bool.and_eq_false_iff]
    refine ⟨e, ?_⟩
    by_cases z : n + 1 = i
    · exact Or.inr (fun q => h2 ⟨z, q⟩)
    · exact Or.inl z
theorem zls_get2 {L : List Value} {i n : Nat} {v w : Value} (hv : v.category = 2) (h : (zls L i v)[n]? = some w) (hw : w ≠ .retAddr 0) (hn : n ≠ i) : n ≠ i + 1 ∧ L[n]? = some w ∧ ¬ (n + 1 = i ∧ w.category = 2) := by
  unfold zls at h
  simp only [if_pos hv] at h
  by_cases hn1 : n = i + 1
  · subst hn1
    have hlt := (List.getElem?_eq_some_iff.mp h).1
    rw [List.length_set] at hlt
    rw [List.getElem?_set_self hlt] at h
    exact absurd (Option.some.inj h).symm hw
  · rw [List.getElem?_set_ne (fun z => hn1 z.symm), List.getElem?_set_ne (fun z => hn z.symm)] at h
    refine ⟨hn1, ?_⟩
    cases i with
    | zero => exact ⟨h, fun q => by omega⟩
    | succ k =>
      dsimp only at h
      cases hk : L[k]? with
      | none =>
        simp only [hk] at h
        refine ⟨h, fun q => ?_⟩
        have : n = k := by omega
        subst this
        rw [hk] at h; cases h
      | some z =>
        simp only [hk] at h
        split at h
        · rename_i hz
          by_cases hnk : n = k
          · subst hnk
            have hlt := (List.getElem?_eq_some_iff.mp h).1
            rw [List.length_set] at hlt
            rw [List.getElem?_set_self hlt] at h
            exact absurd (Option.some.inj h).symm hw
          · rw [List.getElem?_set_ne (fun z => hnk z.symm)] at h
            exact ⟨h, fun q => hnk (by omega)⟩
        · rename_i hz
          refine ⟨h, fun q => ?_⟩
          have : n = k := by omega
          subst this
          rw [hk] at h
          rw [← Option.some.inj h] at q
          exact hz q.2
theorem zls_self2 {L : List Value} {i : Nat} {v w : Value} (hv : v.category = 2) (h : (zls L i v)[i]? = some w) : w = v := by
  have key : ∀ L1 : List Value, ((L1.set i v).set (i + 1) (.retAddr 0))[i]? = some w → w = v := by
    intro L1 h1
    rw [List.getElem?_set_ne (by omega)] at h1
    have hlt := (List.getElem?_eq_some_iff.mp h1).1
    rw [List.length_set] at hlt
    rw [List.getElem?_set_self hlt] at h1
    exact (Option.some.inj h1).symm
  unfold zls at h
  simp only [if_pos hv] at h
  exact key _ h
theorem zlr.store2 {ad sp : Nat → Nat} {L : List Value} {ls' : Array Slot} {i : Nat} {v : Value} {lv : List (Nat × Value)} (hlv : lv = zll ad sp L) (hi : i < L.length) (hc : v.category = 2) (h : lv_has ls' L.length ((i, zvv ad sp v) :: lv.filter (fun q => !(q.1 == i) && (!(q.1 == i + 1) && !(q.1 + 1 == i && q.2.category == 2))))) : zlr ad sp (zls L i v) ls' := by
  subst hlv
  refine ⟨by rw [zls_len]; exact h.1, h.2.1, fun n w hn hw => ?_⟩
  by_cases e : n = i
  · subst e
    have := zls_self2 hc hn
    subst this
    exact h.2.2 _ List.mem_cons_self
  · obtain ⟨h0, h1, h2⟩ := zls_get2 hc hn hw e
    refine h.2.2 (n, zvv ad sp w) (List.mem_cons_of_mem _ (List.mem_filter.mpr ⟨zll_mem h1 hw, ?_⟩))
    simp only [zvv_cat]
    simp only [Bool.and_eq_true, Bool.not_eq_true', beq_eq_false_iff_ne, ne_eq, Bool.and_eq_false_iff]
    refine ⟨e, h0, ?_⟩
    by_cases z : n + 1 = i
    · exact Or.inr (fun q => h2 ⟨z, q⟩)
    · exact Or.inl z
theorem zlr.kill {ad sp : Nat → Nat} {L : List Value} {ls : Array Slot} (k : Nat) (h : zlr ad sp L ls) : zlr ad sp (L.set k (.retAddr 0)) ls := by
  refine ⟨by rw [List.length_set]; exact h.1, h.2.1, fun n w hn hw => ?_⟩
  rw [List.getElem?_set] at hn
  by_cases e : k = n
  · rw [if_pos e] at hn
    split at hn
    · exact absurd (Option.some.inj hn).symm hw
    · cases hn
  · rw [if_neg e] at hn
    exact h.2.2 n w hn hw
theorem zlr.ad {ad ad' sp : Nat → Nat} {L : List Value} {ls : Array Slot} {n : Nat} (h : zlr ad sp L ls) (ha : ∀ c, c < n → ad' c = ad c) (hL : ∀ v ∈ L, zok n v) : zlr ad' sp L ls := by
  refine ⟨h.1, h.2.1, fun i v hi hv => ?_⟩
  rw [zvv_ad ha (hL v (List.mem_of_getElem? hi))]
  exact h.2.2 i v hi hv
theorem zmap_ad {ad ad' sp : Nat → Nat} {st : List Value} {n : Nat} (ha : ∀ c, c < n → ad' c = ad c) (hL : ∀ v ∈ st, zok n v) : st.map (zvv ad' sp) = st.map (zvv ad sp) := List.map_congr_left (fun v hv => zvv_ad ha (hL v hv))
/-- the sum of the lengths -/
def zsl (S : zS) : Nat := (S.map (·.2)).sum
theorem zsl_app (S X : zS) : zsl (S ++ X) = zsl S + zsl X := by simp [zsl]
