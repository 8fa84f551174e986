-- @after: 00.privs 01.names 02.code 03.tabs 04.mach 05.rows 06.facts 07.check 09.world
/-! A step leaves every reference a cell -/
def zgd9 (n : Nat) (L st : List Value) (R : zR0) : Prop := (∀ v ∈ L, zok n v) ∧ (∀ v ∈ st, zok n v) ∧ ∀ c k, R c k ≤ n
def zgo (L : List Value) (S : zS) (q : zT) : Prop := zgd9 q.2.2.1.length q.1 q.2.1 q.2.2.2.1 ∧ S.length ≤ q.2.2.1.length ∧ zsl S ≤ zsl q.2.2.1 ∧ q.1.length = L.length
theorem zok_rv {n m : Nat} (h : m ≤ n) : zok n (zrv m) := by
  cases m with
  | zero => trivial
  | succ m => exact h
theorem zgd_up {n m : Nat} {L st : List Value} {R : zR0} (h : zgd9 n L st R) (hm : n ≤ m) : zgd9 m L st R := by
  have e : ∀ v, zok n v → zok m v := fun v hv => by cases v <;> first | trivial | exact Nat.lt_of_lt_of_le hv hm
  exact ⟨fun v hv => e v (h.1 v hv), fun v hv => e v (h.2.1 v hv), fun c k => Nat.le_trans (h.2.2 c k) hm⟩
theorem zls_ok {n : Nat} {L : List Value} {i : Nat} {v : Value} (h : ∀ w ∈ L, zok n w) (hv : zok n v) : ∀ w ∈ zls L i v, zok n w := by
  have st : ∀ (M : List Value) (k : Nat) (x : Value), (∀ w ∈ M, zok n w) → zok n x → ∀ w ∈ M.set k x, zok n w := by
    intro M k x hM hx w hw
    rcases List.mem_or_eq_of_mem_set hw with q | q
    · exact hM w q
    · rw [q]; exact hx
  have j0 : zok n (.retAddr 0) := trivial
  have h1 : ∀ w ∈ (match i with
    | 0 => L
    | k + 1 => match L[k]? with
      | some w => if w.category = 2 then L.set k (.retAddr 0) else L
      | none => L), zok n w := by
    cases i with
    | zero => exact h
    | succ k =>
      dsimp only
      cases L[k]? with
      | none => exact h
      | some z => dsimp only; split; exact st _ _ _ h j0; exact h
  unfold zls
  dsimp only
  split
  · exact st _ _ _ (st _ _ _ h1 hv) j0
  · exact st _ _ _ h1 hv
section OK
variable {L st : List Value} {S : zS} {R : zR0} {mi : zI} {ml : zJ} {q : zT}
theorem zok_keep {st1 : List Value} {mi1 : zI} {ml1 : zJ} (hg : zgd9 S.length L st R) (h : ∀ v ∈ st1, zok S.length v) : zgo L S (L, st1, S, R, mi1, ml1) := ⟨⟨hg.1, h, hg.2.2⟩, Nat.le_refl _, Nat.le_refl _, rfl⟩
theorem zbi_ok {f} (hg : zgd9 S.length L st R) (h : zbi f L st S R mi ml = some q) : zgo L S q := by
  unfold zbi at h
  split at h
  · cases h; exact zok_keep hg (by have := hg.2.1; simp_all [zok])
  · cases h
theorem zbg_ok {f} (hg : zgd9 S.length L st R) (h : zbg f L st S R mi ml = some q) : zgo L S q := by
  unfold zbg at h
  split at h
  · split at h
    · cases h; exact zok_keep hg (by have := hg.2.1; simp_all [zok])
    · cases h
  · cases h
theorem zbl_ok {f} (hg : zgd9 S.length L st R) (h : zbl f L st S R mi ml = some q) : zgo L S q := by
  unfold zbl at h
  split at h
  · cases h; exact zok_keep hg (by have := hg.2.1; simp_all [zok])
  · cases h
theorem zun_ok {f : Int32 → Value} (hg : zgd9 S.length L st R) (h : zun f L st S R mi ml = some q) (hf : ∀ a, zok S.length (f a)) : zgo L S q := by
  unfold zun at h
  split at h
  · cases h; exact zok_keep hg (by have := hg.2.1; simp_all [zok])
  · cases h
theorem zload_ok {k ok} (hg : zgd9 S.length L st R) (h : zload k ok L st S R mi ml = some q) : zgo L S q := by
  unfold zload at h
  split at h
  · rename_i v hv
    split at h
    · cases h; exact zok_keep hg (by have := hg.2.1; have := hg.1 v (List.mem_of_getElem? hv); simp_all)
    · cases h
  · cases h
theorem zstore_ok {k ok} (hg : zgd9 S.length L st R) (h : zstore k ok L st S R mi ml = some q) : zgo L S q := by
  unfold zstore at h
  split at h
  · split at h
    · cases h; have h2 := hg.2.1; exact ⟨⟨zls_ok hg.1 (h2 _ List.mem_cons_self), fun v hv => h2 v (List.mem_cons_of_mem _ hv), hg.2.2⟩, Nat.le_refl _, Nat.le_refl _, zls_len⟩
    · cases h
  · cases h
theorem zget_ok {f} (hg : zgd9 S.length L st R) (h : zget f L st S R mi ml = some q) : zgo L S q := by
  have h2 := hg.2.1
  have hz : ∀ c k, zok S.length (zrv (R c k)) := fun c k => zok_rv (hg.2.2 c k)
  unfold zget at h
  split at h
  · split at h
    · split at h
      · split at h
        · cases h; exact zok_keep hg (by simp_all [zok])
        · cases h; exact zok_keep hg (by simp_all [zok])
        · cases h; exact zok_keep hg (by simp_all [zok])
        · cases h; exact zok_keep hg (by simp_all [zok])
        · cases h
      · cases h
    · cases h
  · split at h
    · split at h
      · cases h; exact zok_keep hg (by simp_all [zok])
      · cases h; exact zok_keep hg (by simp_all [zok])
      · cases h
    · cases h
  · cases h
theorem zuR_ok {n c k x : Nat} (h : ∀ a b, R a b ≤ n) (hx : x ≤ n) : ∀ a b, zu R c k x a b ≤ n := by
  intro a b; unfold zu; split; exact hx; exact h a b
theorem zput_ok {f} (hg : zgd9 S.length L st R) (h : zput f L st S R mi ml = some q) : zgo L S q := by
  have h2 := hg.2.1
  unfold zput at h
  split at h
  · split at h
    · split at h
      · split at h
        · cases h; exact zok_keep hg (by simp_all [zok])
        · split at h
          · cases h; exact zok_keep hg (by simp_all [zok])
          · cases h
        · cases h; exact zok_keep hg (by simp_all [zok])
        · cases h
          exact ⟨⟨hg.1, by simp_all [zok], zuR_ok hg.2.2 (show _ + 1 ≤ _ from h2 _ List.mem_cons_self)⟩, Nat.le_refl _, Nat.le_refl _, rfl⟩
        · cases h
      · cases h
    · cases h
  · cases h
theorem zald_ok {ks} (hg : zgd9 S.length L st R) (h : zald ks L st S R mi ml = some q) : zgo L S q := by
  have h2 := hg.2.1
  have hz : ∀ c k, zok S.length (zrv (R c k)) := fun c k => zok_rv (hg.2.2 c k)
  unfold zald at h
  split at h
  · split at h
    · split at h
      · split at h
        · cases h; exact zok_keep hg (by simp_all [zok])
        all_goals first
          | (cases h; exact zok_keep hg (by simp_all [zok]))
          | (cases h; exact zok_keep hg (by simp_all [zok]))
      · cases h
    · cases h
  · split at h
    · cases h; exact zok_keep hg (by simp_all [zok])
    · cases h
  · cases h
theorem zast_ok {ks} (hg : zgd9 S.length L st R) (h : zast ks L st S R mi ml = some q) : zgo L S q := by
  have h2 := hg.2.1
  have hr : ∀ (x i c : Nat) (v w : Value) (st' : List Value), st = .ref x :: v :: w :: st' → zgo L S (L, st', S, zu R c i (x + 1), mi, ml) := by
    intro x i c v w st' e
    subst e
    have hx : zok S.length (.ref x) := h2 _ List.mem_cons_self
    exact ⟨⟨hg.1, by simp_all, zuR_ok hg.2.2 hx⟩, Nat.le_refl _, Nat.le_refl _, rfl⟩
  unfold zast at h
  split at h
  · split at h
    · split at h
      · split at h
        · cases h; exact zok_keep hg (by simp_all [zok])
        · cases h; exact zok_keep hg (by simp_all [zok])
        · cases h; exact zok_keep hg (by simp_all [zok])
        · cases h; exact zok_keep hg (by simp_all [zok])
        · split at h
          · cases h; exact hr _ _ _ _ _ _ rfl
          · cases h
        · split at h
          · cases h; exact hr _ _ _ _ _ _ rfl
          · cases h
        · split at h
          · cases h; exact hr _ _ _ _ _ _ rfl
          · cases h
        · cases h
      · cases h
    · cases h
  · cases h
theorem zalen_ok (hg : zgd9 S.length L st R) (h : zalen L st S R mi ml = some q) : zgo L S q := by
  have h2 := hg.2.1
  unfold zalen at h
  split at h
  · split at h
    · split at h
      · cases h; exact zok_keep hg (by simp_all [zok])
      · cases h
    · cases h
  · split at h
    · cases h; exact zok_keep hg (by simp_all [zok])
    · cases h
  · cases h
theorem zw0_ok {n c : Nat} (h : ∀ a b, R a b ≤ n) : ∀ a b, zw0 R c 0 a b ≤ n := by
  intro a b; unfold zw0; split; exact Nat.zero_le _; exact h a b
theorem zapp_ok {st1 : List Value} {X : zS} {R1 : zR0} {mi1 : zI} {ml1 : zJ} {m : Nat} (hg : zgd9 S.length L st R) (hm : X.length = m) (h : ∀ v ∈ st1, zok (S.length + m) v) (hR : ∀ a b, R1 a b ≤ S.length + m) : zgo L S (L, st1, S ++ X, R1, mi1, ml1) := by
  subst hm
  have e : (S ++ X).length = S.length + X.length := List.length_append
  refine ⟨?_, by show S.length ≤ (S ++ X).length; omega, by show zsl S ≤ zsl (S ++ X); rw [zsl_app]; omega, rfl⟩
  show zgd9 (S ++ X).length L st1 R1
  rw [e]
  exact ⟨(zgd_up hg (Nat.le_add_right _ _)).1, h, hR⟩
theorem znew_ok {ci n} (hg : zgd9 S.length L st R) (h : znew ci n L st S R mi ml = some q) : zgo L S q := by
  unfold znew at h
  cases h
  have hu := zgd_up hg (Nat.le_add_right S.length 1)
  refine zapp_ok (m := 1) hg rfl ?_ (zw0_ok hu.2.2)
  intro v hv
  rcases List.mem_cons.mp hv with rfl | hv
  · exact Nat.lt_succ_self _
  · exact hu.2.1 v hv
theorem znewa_ok {ci} (hg : zgd9 S.length L st R) (h : znewa ci L st S R mi ml = some q) : zgo L S q := by
  unfold znewa at h
  split at h
  · split at h
    · cases h
      have hu := zgd_up hg (Nat.le_add_right S.length 1)
      refine zapp_ok (m := 1) hg rfl ?_ (zw0_ok hu.2.2)
      intro v hv
      rcases List.mem_cons.mp hv with rfl | hv
      · exact Nat.lt_succ_self _
      · exact hu.2.1 v (List.mem_cons_of_mem _ hv)
    · cases h
  · cases h
theorem zmna_ok {ci} (hg : zgd9 S.length L st R) (h : zmna ci L st S R mi ml = some q) : zgo L S q := by
  unfold zmna at h
  split at h
  · split at h
    · rename_i k n st' hh
      cases h
      have hu := zgd_up hg (Nat.le_add_right S.length (1 + n.toNatClampNeg))
      refine zapp_ok (m := 1 + n.toNatClampNeg) hg (by simp; omega) ?_ ?_
      · intro v hv
        rcases List.mem_cons.mp hv with rfl | hv
        · show S.length < S.length + (1 + n.toNatClampNeg); omega
        · exact hu.2.1 v (List.mem_cons_of_mem _ (List.mem_cons_of_mem _ hv))
      · intro a b
        split
        · split <;> omega
        · split
          · omega
          · exact hu.2.2 a b
    · cases h
  · cases h
theorem zcopy_ok (hg : zgd9 S.length L st R) (h : zcopy L st S R mi ml = some q) : zgo L S q := by
  have h2 := hg.2.1
  unfold zcopy at h
  split at h
  · split at h
    · split at h
      · split at h
        · cases h; exact zok_keep hg (by simp_all [zok])
        · cases h; exact zok_keep hg (by simp_all [zok])
        · cases h
      · cases h
    · cases h
  · cases h
set_option maxHeartbeats 4000000 in
theorem zst_ok {I : Instr} (hg : zgd9 S.length L st R) (h : zst I L st S R mi ml = some q) : zgo L S q := by
  have h2 := hg.2.1
  cases I
  case iconst n => cases h; exact zok_keep hg (by simp_all [zok])
  case jsr n => cases h; exact zok_keep hg (by simp_all [zok])
  case jsr_w n => cases h; exact zok_keep hg (by simp_all [zok])
  case aconst_null => cases h; exact zok_keep hg (by simp_all [zok])
  case iload k => exact zload_ok hg h
  case lload k => exact zload_ok hg h
  case aload k => exact zload_ok hg h
  case istore k => exact zstore_ok hg h
  case lstore k => exact zstore_ok hg h
  case astore k => exact zstore_ok hg h
  case ret k =>
    cases h
    refine ⟨⟨fun w hw => ?_, h2, hg.2.2⟩, Nat.le_refl _, Nat.le_refl _, List.length_set⟩
    rcases List.mem_or_eq_of_mem_set hw with z | z
    · exact hg.1 w z
    · rw [z]; trivial
  case iinc k n =>
    simp only [zst] at h
    split at h
    · cases h; exact ⟨⟨zls_ok (v := .int _) hg.1 (by trivial), h2, hg.2.2⟩, Nat.le_refl _, Nat.le_refl _, zls_len (L := L) (i := k) (v := .int _)⟩
    · cases h
  case iadd => exact zbi_ok hg h
  case isub => exact zbi_ok hg h
  case imul => exact zbi_ok hg h
  case iand => exact zbi_ok hg h
  case ior => exact zbi_ok hg h
  case ixor => exact zbi_ok hg h
  case ishl => exact zbi_ok hg h
  case ishr => exact zbi_ok hg h
  case iushr => exact zbi_ok hg h
  case dadd => exact zbg_ok hg h
  case dsub => exact zbg_ok hg h
  case ladd => exact zbl_ok hg h
  case lmul => exact zbl_ok hg h
  case lxor => exact zbl_ok hg h
  case ineg => exact zun_ok hg h (fun _ => trivial)
  case i2l => exact zun_ok hg h (fun _ => trivial)
  case i2b => exact zun_ok hg h (fun _ => trivial)
  case i2s => exact zun_ok hg h (fun _ => trivial)
  case i2c => exact zun_ok hg h (fun _ => trivial)
  case getfield f => exact zget_ok hg h
  case putfield f => exact zput_ok hg h
  case iaload => exact zald_ok hg h
  case laload => exact zald_ok hg h
  case baload => exact zald_ok hg h
  case aaload => exact zald_ok hg h
  case iastore => exact zast_ok hg h
  case lastore => exact zast_ok hg h
  case bastore => exact zast_ok hg h
  case aastore => exact zast_ok hg h
  case arraylength => exact zalen_ok hg h
  case new ci =>
    simp only [zst] at h
    split at h
    · exact znew_ok hg h
    · cases h
  case newarray t =>
    cases t <;> first | exact znewa_ok hg h | cases h
  case anewarray ci =>
    simp only [zst] at h
    split at h
    · exact znewa_ok hg h
    · cases h
  case multianewarray ci n =>
    simp only [zst] at h
    split at h
    · exact zmna_ok hg h
    · cases h
  case monitorenter => exact zcopy_ok hg h
  all_goals first
    | (simp only [zst] at h; done)
    | (simp only [zst] at h; cases h; done)
    | (simp only [zst] at h
       split at h
       all_goals first
         | (cases h; done)
         | (cases h; exact zok_keep hg (by simp_all [zok]))
         | (split at h
            all_goals first
              | (cases h; done)
              | (cases h; exact zok_keep hg (by simp_all [zok]))))
end OK
