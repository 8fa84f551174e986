-- @after: 00.privs 01.names 02.code 03.tabs 04.mach 05.rows 26.rows2
/-! A program's condition, computed: zwp lays for a place of a method what has to hold for it to end as Q asks; cs are the loops' heads, at gs what is known of a cell is asked for, elsewhere it is computed.
Cells and references stay as they are. -/
abbrev zQ : Type := Option Value → zI → zJ → Prop
def Wf (d j i : Nat) (L st : List Value) (S : zS) (R : zR0) (mi : zI) (ml : zJ) (Q : zQ) : Prop := Wz d j i L st S R mi ml (fun r S1 R1 mi1 ml1 => S1 = S ∧ R1 = R ∧ Q r mi1 ml1)
def Tf (d j : Nat) (args : List Value) (S : zS) (R : zR0) (mi : zI) (ml : zJ) (Q : zQ) : Prop := Wf d j 0 (zent args (zM j).1) [] S R mi ml Q
def qI (K : Int32 → zI → zJ → Prop) : zQ := fun r mi ml => match r with | some (.int v) => K v mi ml | _ => False
def qL (K : Int64 → zI → zJ → Prop) : zQ := fun r mi ml => match r with | some (.long v) => K v mi ml | _ => False
def qV (K : zI → zJ → Prop) : zQ := fun r mi ml => match r with | none => K mi ml | _ => False
def qA (K : Nat → zI → zJ → Prop) : zQ := fun r mi ml => match r with | some .null => K 0 mi ml | some (.ref c) => K (c + 1) mi ml | _ => False
theorem TI_of {d j : Nat} {args : List Value} {S : zS} {R : zR0} {mi : zI} {ml : zJ} {K : Int32 → zI → zJ → Prop} (h : Tf d j args S R mi ml (qI K)) : TI d j args S R mi ml K :=
  Wz.mono h (fun r _ _ _ _ q => by
    obtain ⟨a, b, c⟩ := q
    unfold qI at c
    split at c
    · exact ⟨_, rfl, a, b, c⟩
    · exact c.elim)
theorem TL_of {d j : Nat} {args : List Value} {S : zS} {R : zR0} {mi : zI} {ml : zJ} {K : Int64 → zI → zJ → Prop} (h : Tf d j args S R mi ml (qL K)) : TL d j args S R mi ml K :=
  Wz.mono h (fun r _ _ _ _ q => by
    obtain ⟨a, b, c⟩ := q
    unfold qL at c
    split at c
    · exact ⟨_, rfl, a, b, c⟩
    · exact c.elim)
theorem TV_of {d j : Nat} {args : List Value} {S : zS} {R : zR0} {mi : zI} {ml : zJ} {K : zI → zJ → Prop} (h : Tf d j args S R mi ml (qV K)) : TV d j args S R mi ml K :=
  Wz.mono h (fun r _ _ _ _ q => by
    obtain ⟨a, b, c⟩ := q
    unfold qV at c
    split at c
    · exact ⟨rfl, a, b, c⟩
    · exact c.elim)
theorem TA_of {d j : Nat} {args : List Value} {S : zS} {R : zR0} {mi : zI} {ml : zJ} {K : Nat → zI → zJ → Prop} (h : Tf d j args S R mi ml (qA K)) : TA d j args S R mi ml K :=
  Wz.mono h (fun r _ _ _ _ q => by
    obtain ⟨a, b, c⟩ := q
    unfold qA at c
    split at c
    · exact ⟨0, rfl, a, b, c⟩
    · exact ⟨_, rfl, a, b, c⟩
    · exact c.elim)
def zgd (g : Bool) (P : Prop) [Decidable P] (X : Prop) : Prop := match g with
  | true => P ∧ X
  | false => if P then X else False
theorem zgd_of {g : Bool} {P : Prop} [Decidable P] {X : Prop} (h : zgd g P X) : P ∧ X := by
  unfold zgd at h
  cases g with
  | true => exact h
  | false =>
    by_cases hp : P
    · simp only [hp, if_true] at h; exact ⟨hp, h⟩
    · simp only [hp, if_false] at h
def zk (S : zS) (c : Nat) : Nat := match S[c]? with | some q => q.1 | none => 999
def zn (S : zS) (c : Nat) : Nat := match S[c]? with | some q => q.2 | none => 0
theorem zk_of {S : zS} {c k : Nat} (h : zk S c = k) (hk : k ≠ 999) : S[c]? = some (k, zn S c) := by
  unfold zk at h; unfold zn
  cases hS : S[c]? with
  | none => rw [hS] at h; exact absurd h.symm hk
  | some q => rw [hS] at h; subst h; rfl
/-- no field is of the class 999 -/
theorem zF_999 {f : Nat} (h : (zF f).1.contains 999 = true) : False := by
  unfold zF at h
  cases h1 : zFs[f / 16]? with
  | none => simp [h1] at h
  | some l =>
    have hl : l ∈ zFs := List.mem_of_getElem? h1
    cases h2 : l[f % 16]? with
    | none => simp [h1, h2] at h
    | some q =>
      have hq : q ∈ l := List.mem_of_getElem? h2
      simp only [h1, h2, Option.getD_some] at h
      exact absurd h (by
        have : ∀ l ∈ zFs, ∀ q ∈ l, q.1.contains 999 = false := by decide +kernel
        rw [this l hl q hq]; decide)
/-- a reference: computed, or split; g2: it may be null -/
def zsp (g g2 : Bool) (v : Nat) (k : Value → Prop) : Prop := match g, g2 with
  | true, true => (v = 0 → k .null) ∧ (∀ c, v = c + 1 → k (.ref c))
  | true, false => v ≠ 0 ∧ (∀ c, v = c + 1 → k (.ref c))
  | false, _ => k (zrv v)
theorem zsp_of {g g2 : Bool} {v : Nat} {k : Value → Prop} (h : zsp g g2 v k) : k (zrv v) := by
  cases g with
  | false => exact h
  | true =>
    cases v with
    | zero => cases g2 with
      | true => exact h.1 rfl
      | false => exact absurd rfl h.1
    | succ c => cases g2 with
      | true => exact h.2 c rfl
      | false => exact h.2 c rfl
/-- a branch: computed, or split -/
def zbr (g b : Bool) (P A B : Prop) : Prop := match g with
  | true => (match b with | true => A | false => B)
  | false => (P → A) ∧ (¬ P → B)
theorem zbr_of {g b : Bool} {P A B : Prop} (e : b = true ↔ P) (h : zbr g b P A B) : (P → A) ∧ (¬ P → B) := by
  cases g with
  | false => exact h
  | true =>
    cases b with
    | true => exact ⟨fun _ => h, fun n => absurd (e.mp rfl) n⟩
    | false => exact ⟨fun p => Bool.noConfusion (e.mpr p), fun _ => h⟩
def zsw2 (a : Int32) (W : Nat → Prop) (d : Int) : List (Int × Int) → Prop
  | [] => W d.toNat
  | q :: l => (a = Int32.ofInt q.1 → W q.2.toNat) ∧ (¬ a = Int32.ofInt q.1 → zsw2 a W d l)
theorem zsw2_of {a : Int32} {d : Int} {W : Nat → Prop} : ∀ {l : List (Int × Int)}, zsw2 a W d l → zswF a d W l
  | [], h => h
  | q :: l, h => ⟨h.1, fun e => zsw2_of (h.2 e)⟩
theorem zsw2_mono {a : Int32} {d : Int} {W W' : Nat → Prop} (hw : ∀ t, W t → W' t) : ∀ {l : List (Int × Int)}, zswF a d W l → zswF a d W' l
  | [], h => hw _ h
  | q :: l, h => ⟨fun e => hw _ (h.1 e), fun e => zsw2_mono hw (h.2 e)⟩
/-- a call's condition -/
def zcal (k : Nat) (d j1 : Nat) (args : List Value) (S : zS) (R : zR0) (mi : zI) (ml : zJ) (X : List Value → zI → zJ → Prop) (g g2 : Bool) : Prop := match k with
  | 0 => TV d j1 args S R mi ml (fun mi1 ml1 => X [] mi1 ml1)
  | 5 => TL d j1 args S R mi ml (fun v mi1 ml1 => X [.long v] mi1 ml1)
  | 6 => TA d j1 args S R mi ml (fun v mi1 ml1 => zsp g g2 v (fun w => X [w] mi1 ml1))
  | _ => TI d j1 args S R mi ml (fun v mi1 ml1 => X [.int v] mi1 ml1)
theorem zcal_of {k d j1 : Nat} {args : List Value} {S : zS} {R : zR0} {mi : zI} {ml : zJ} {X : List Value → zI → zJ → Prop} {g g2 : Bool} (h : zcal k d j1 args S R mi ml X g g2) :
    Tz d j1 args S R mi ml (fun r S1 R1 mi1 ml1 => S1 = S ∧ R1 = R ∧ X r.toList mi1 ml1) := by
  unfold zcal at h
  split at h
  · exact Tz.mono h (fun r _ _ _ _ ⟨a, b, c, e⟩ => by subst a; exact ⟨b, c, e⟩)
  · exact Tz.mono h (fun r _ _ _ _ ⟨v, a, b, c, e⟩ => by subst a; exact ⟨b, c, e⟩)
  · exact Tz.mono h (fun r _ _ _ _ ⟨v, a, b, c, e⟩ => by subst a; exact ⟨b, c, zsp_of e⟩)
  · exact Tz.mono h (fun r _ _ _ _ ⟨v, a, b, c, e⟩ => by subst a; exact ⟨b, c, e⟩)
def zcat (st : List Value) : Nat := (st.map fun v => v.category).sum
def zplain (I : Instr) : Bool := match I with
  | .new _ => false
  | .newarray _ => false
  | .anewarray _ => false
  | .multianewarray _ _ => false
  | .aastore => false
  | .iastore => false
  | .lastore => false
  | .bastore => false
  | .putfield _ => false
  | _ => true
/-- one step's condition, with what comes after it -/
def zw1 (S : zS) (R : zR0) (d j i : Nat) (g g2 : Bool) (Q : zQ) (I : Instr) (L st : List Value) (mi : zI) (ml : zJ) (k : Nat → List Value → List Value → zI → zJ → Prop) : Prop := match I with
  | .ifCond c t => match st with
    | .int a :: st => zbr g (zcondB c a 0) (zcond c a 0) (k t.toNat L st mi ml) (k (i + 1) L st mi ml)
    | _ => False
  | .if_icmp c t => match st with
    | .int b :: .int a :: st => zbr g (zcondB c a b) (zcond c a b) (k t.toNat L st mi ml) (k (i + 1) L st mi ml)
    | _ => False
  | .goto t => k t.toNat L st mi ml
  | .ifnull t => match st with
    | .null :: st => k t.toNat L st mi ml
    | .ref _ :: st => k (i + 1) L st mi ml
    | _ => False
  | .ifnonnull t => match st with
    | .null :: st => k (i + 1) L st mi ml
    | .ref _ :: st => k t.toNat L st mi ml
    | _ => False
  | .lookupswitch df ps => match st with
    | .int a :: st => zsw2 a (fun t => k t L st mi ml) df ps.toList
    | _ => False
  | .getfield f => match st with
    | .ref c :: st => zgd g ((zF f).1.contains (zk S c) = true ∧ (zF f).2.1 < zn S c) (match (zF f).2.2 with
      | 0 => k (i + 1) L (.int (mi c (zF f).2.1) :: st) mi ml
      | 3 => k (i + 1) L (.int (mi c (zF f).2.1) :: st) mi ml
      | 1 => k (i + 1) L (.long (ml c (zF f).2.1) :: st) mi ml
      | 2 => zsp g g2 (R c (zF f).2.1) (fun v => k (i + 1) L (v :: st) mi ml)
      | _ => False)
    | .retAddr n :: st => if 10 ≤ n ∧ n < 17 ∧ (zF f).2.2 = 5 then (match (zF f).2.1 with
      | 0 => k (i + 1) L (.retAddr (n + 10) :: st) mi ml
      | 1 => k (i + 1) L (.int 0 :: st) mi ml
      | _ => False) else False
    | _ => False
  | .putfield f => match st with
    | .int x :: .ref c :: st => zgd g ((zF f).1.contains (zk S c) = true ∧ (zF f).2.1 < zn S c) (match (zF f).2.2 with
      | 0 => k (i + 1) L st (zu mi c (zF f).2.1 x) ml
      | 3 => (x = 0 ∨ x = 1) ∧ k (i + 1) L st (zu mi c (zF f).2.1 x) ml
      | _ => False)
    | .long x :: .ref c :: st => zgd g ((zF f).1.contains (zk S c) = true ∧ (zF f).2.1 < zn S c ∧ (zF f).2.2 = 1) (k (i + 1) L st mi (zu ml c (zF f).2.1 x))
    | _ => False
  | .iaload => match st with
    | .int x :: .ref c :: st => zgd g (zk S c = 100) (zin x (zn S c) = true ∧ k (i + 1) L (.int (mi c x.toNatClampNeg) :: st) mi ml)
    | .int x :: .retAddr n :: st => if 1 ≤ n ∧ n ≤ 3 then (zin x (zTab n).length = true ∧ k (i + 1) L (.int ((zTab n).getD x.toNatClampNeg 0) :: st) mi ml) else False
    | _ => False
  | .baload => match st with
    | .int x :: .ref c :: st => zgd g (zk S c = 102 ∨ zk S c = 103) (zin x (zn S c) = true ∧ k (i + 1) L (.int (mi c x.toNatClampNeg) :: st) mi ml)
    | .int x :: .retAddr n :: st => if 20 ≤ n ∧ n ≤ 26 then (zin x (zTab n).length = true ∧ k (i + 1) L (.int ((zTab n).getD x.toNatClampNeg 0) :: st) mi ml) else False
    | _ => False
  | .laload => match st with
    | .int x :: .ref c :: st => zgd g (zk S c = 101) (zin x (zn S c) = true ∧ k (i + 1) L (.long (ml c x.toNatClampNeg) :: st) mi ml)
    | _ => False
  | .aaload => match st with
    | .int x :: .ref c :: st => zgd false ((zk S c = 104 ∨ zk S c = 105 ∨ zk S c = 106 ∨ zk S c = 107 ∨ zk S c = 108)) (zin x (zn S c) = true ∧ zsp g g2 (R c x.toNatClampNeg) (fun v => k (i + 1) L (v :: st) mi ml))
    | _ => False
  | .arraylength => match st with
    | .ref c :: st => zgd g (100 ≤ zk S c ∧ zk S c ≤ 108) (k (i + 1) L (.int (Int32.ofNat (zn S c)) :: st) mi ml)
    | .retAddr n :: st => if 1 ≤ n ∧ n ≤ 3 ∨ 20 ≤ n ∧ n ≤ 26 then k (i + 1) L (.int (Int32.ofNat (zTab n).length) :: st) mi ml else False
    | _ => False
  | .iastore => match st with
    | .int v :: .int x :: .ref c :: st => zgd g (zk S c = 100) (zin x (zn S c) = true ∧ k (i + 1) L st (zu mi c x.toNatClampNeg v) ml)
    | _ => False
  | .bastore => match st with
    | .int v :: .int x :: .ref c :: st => zgd g (zk S c = 102 ∨ zk S c = 103) (zin x (zn S c) = true ∧ k (i + 1) L st (zu mi c x.toNatClampNeg (if zk S c = 102 then v.toInt8.toInt32 else v &&& 1)) ml)
    | _ => False
  | .lastore => match st with
    | .long v :: .int x :: .ref c :: st => zgd g (zk S c = 101) (zin x (zn S c) = true ∧ k (i + 1) L st mi (zu ml c x.toNatClampNeg v))
    | _ => False
  | .idiv => match st with
    | .int b :: .int a :: st => ¬ b = 0 ∧ k (i + 1) L (.int (a / b) :: st) mi ml
    | _ => False
  | .irem => match st with
    | .int b :: .int a :: st => ¬ b = 0 ∧ k (i + 1) L (.int (a % b) :: st) mi ml
    | _ => False
  | .ldiv => match st with
    | .long b :: .long a :: st => ¬ b = 0 ∧ k (i + 1) L (.long (a / b) :: st) mi ml
    | _ => False
  | .lrem => match st with
    | .long b :: .long a :: st => ¬ b = 0 ∧ k (i + 1) L (.long (a % b) :: st) mi ml
    | _ => False
  | .monitorenter => match st with
    | .int n :: .int dp :: .ref e :: .int sp :: .ref c :: st => if zcat st ≤ 8 then (zgd g ((zk S c = 100 ∨ zk S c = 101) ∧ zk S e = zk S c) ((¬ sp < 0 ∧ ¬ dp < 0 ∧ ¬ n < 0 ∧ sp.toNatClampNeg + n.toNatClampNeg ≤ zn S c ∧ dp.toNatClampNeg + n.toNatClampNeg ≤ zn S e) ∧
        (if zk S c = 100 then k (i + 1) L st (zcp mi e (mi c) sp.toNatClampNeg dp.toNatClampNeg n.toNatClampNeg) ml else k (i + 1) L st mi (zcp ml e (ml c) sp.toNatClampNeg dp.toNatClampNeg n.toNatClampNeg)))) else False
    | _ => False
  | .ireturn => match st with
    | [.int a] => match (zM j).2.2 with
      | 1 => Q (some (.int a)) mi ml
      | 2 => zgd g (a = 0 ∨ a = 1) (Q (some (.int a)) mi ml)
      | q => narrow (zrty q) (.int a) = .int a ∧ Q (some (.int a)) mi ml
    | _ => False
  | .return_ => match st with
    | [] => Q none mi ml
    | _ => False
  | .lreturn => match st with
    | [.long a] => Q (some (.long a)) mi ml
    | _ => False
  | .areturn => match st with
    | [.ref a] => Q (some (.ref a)) mi ml
    | [.null] => Q (some .null) mi ml
    | _ => False
  | .invokestatic v => if (zV v).1 ≤ st.length ∧ zcat (st.drop (zV v).1) ≤ 8 then (match ztg S v (st.take (zV v).1).reverse with
      | some j1 => if (zarg (st.take (zV v).1).reverse).length ≤ (zM j1).1 then zcal (zM j1).2.2 d j1 (st.take (zV v).1).reverse S R mi ml (fun r mi1 ml1 => k (i + 1) L (r ++ st.drop (zV v).1) mi1 ml1) true g2 else False
      | none => False) else False
  | .invokespecial v => if (zV v).1 ≤ st.length ∧ zcat (st.drop (zV v).1) ≤ 8 then (match g with
      | true => ∃ j1, ztg S v (st.take (zV v).1).reverse = some j1 ∧ (zarg (st.take (zV v).1).reverse).length ≤ (zM j1).1 ∧ zcal (zM (((zV v).2.2[0]?).getD (0, 0)).2).2.2 d j1 (st.take (zV v).1).reverse S R mi ml (fun r mi1 ml1 => k (i + 1) L (r ++ st.drop (zV v).1) mi1 ml1) true g2
      | false => (match ztg S v (st.take (zV v).1).reverse with
        | some j1 => if (zarg (st.take (zV v).1).reverse).length ≤ (zM j1).1 then zcal (zM j1).2.2 d j1 (st.take (zV v).1).reverse S R mi ml (fun r mi1 ml1 => k (i + 1) L (r ++ st.drop (zV v).1) mi1 ml1) true g2 else False
        | none => False)) else False
  | .invokevirtual v => if (zV v).1 ≤ st.length ∧ zcat (st.drop (zV v).1) ≤ 8 then (match g with
      | true => ∃ j1, ztg S v (st.take (zV v).1).reverse = some j1 ∧ (zarg (st.take (zV v).1).reverse).length ≤ (zM j1).1 ∧ zcal (zM (((zV v).2.2[0]?).getD (0, 0)).2).2.2 d j1 (st.take (zV v).1).reverse S R mi ml (fun r mi1 ml1 => k (i + 1) L (r ++ st.drop (zV v).1) mi1 ml1) true g2
      | false => (match ztg S v (st.take (zV v).1).reverse with
        | some j1 => if (zarg (st.take (zV v).1).reverse).length ≤ (zM j1).1 then zcal (zM j1).2.2 d j1 (st.take (zV v).1).reverse S R mi ml (fun r mi1 ml1 => k (i + 1) L (r ++ st.drop (zV v).1) mi1 ml1) true g2 else False
        | none => False)) else False
  | I => match zplain I, zst I L st S R mi ml with
    | true, some (L1, st1, _, _, mi1, ml1) => k (i + 1) L1 st1 mi1 ml1
    | _, _ => False
theorem zplain_of {I : Instr} {L st : List Value} {S : zS} {R : zR0} {mi : zI} {ml : zJ} {L1 st1 : List Value} {S1 : zS} {R1 : zR0} {mi1 : zI} {ml1 : zJ} (hp : zplain I = true) (h : zst I L st S R mi ml = some (L1, st1, S1, R1, mi1, ml1)) : S1 = S ∧ R1 = R := by
  unfold zst at h
  split at h <;> first
    | (simp [zplain] at hp; done)
    | (try simp only [zbi, zbg, zbl, zun, zload, zstore, zget, zald, zast, zalen, zcopy] at h
       repeat' split at h
       all_goals (first | (cases h; exact ⟨rfl, rfl⟩) | (cases h) | (simp at h; done)))
theorem zw1_of {S : zS} {R : zR0} {d j i : Nat} {g g2 : Bool} {Q : zQ} {I : Instr} {L st : List Value} {mi : zI} {ml : zJ} {k : Nat → List Value → List Value → zI → zJ → Prop}
    (hI : (zC j)[i]? = some I) (hk : ∀ i L st mi ml, k i L st mi ml → Wf (d + 1) j i L st S R mi ml Q) (h : zw1 S R d j i g g2 Q I L st mi ml k) : Wf (d + 1) j i L st S R mi ml Q := by
  unfold zw1 at h
  split at h
  · -- ifCond
    split at h
    · have h := zbr_of (zcondB_iff _ _ _) h
      exact r_if hI rfl ⟨fun e => hk _ _ _ _ _ (h.1 e), fun e => hk _ _ _ _ _ (h.2 e)⟩
    · exact h.elim
  · split at h
    · have h := zbr_of (zcondB_iff _ _ _) h
      exact r_icmp hI rfl ⟨fun e => hk _ _ _ _ _ (h.1 e), fun e => hk _ _ _ _ _ (h.2 e)⟩
    · exact h.elim
  · exact r_goto hI rfl (hk _ _ _ _ _ h)
  · split at h
    · exact r_jp hI rfl rfl (hk _ _ _ _ _ h)
    · exact r_jp hI rfl rfl (hk _ _ _ _ _ h)
    · exact h.elim
  · split at h
    · exact r_jp hI rfl rfl (hk _ _ _ _ _ h)
    · exact r_jp hI rfl rfl (hk _ _ _ _ _ h)
    · exact h.elim
  · split at h
    · exact r_jp hI rfl rfl (zswF_of (W := fun t => Wf (d + 1) j t L _ S R mi ml Q) (zsw2_mono (fun t q => hk _ _ _ _ _ q) (zsw2_of h)))
    · exact h.elim
  · -- getfield
    split at h
    · obtain ⟨⟨h1, h2⟩, h⟩ := zgd_of h
      have hS := zk_of (S := S) (k := zk S _) rfl (fun e => by rw [e] at h1; exact zF_999 h1)
      split at h
      · rename_i ht; exact r_getI hI hS h1 h2 (.inl ht) (hk _ _ _ _ _ h)
      · rename_i ht; exact r_getI hI hS h1 h2 (.inr ht) (hk _ _ _ _ _ h)
      · rename_i ht; exact r_getJ hI hS h1 h2 ht (hk _ _ _ _ _ h)
      · rename_i ht; exact r_getR hI hS h1 h2 ht rfl (hk _ _ _ _ _ (zsp_of h))
      · exact h.elim
    · split at h
      · rename_i hn
        split at h
        · rename_i h0
          exact r_st hI (by simp only [zst, zget]; rw [if_pos hn]; simp only [h0]) (hk _ _ _ _ _ h)
        · rename_i h0
          exact r_st hI (by simp only [zst, zget]; rw [if_pos hn]; simp only [h0]) (hk _ _ _ _ _ h)
        · exact h.elim
      · exact h.elim
    · exact h.elim
  · -- putfield
    split at h
    · obtain ⟨⟨h1, h2⟩, h⟩ := zgd_of h
      have hS := zk_of (S := S) (k := zk S _) rfl (fun e => by rw [e] at h1; exact zF_999 h1)
      split at h
      · rename_i ht; exact r_putI hI hS h1 h2 ht (hk _ _ _ _ _ h)
      · rename_i ht; exact r_zput hI hS h1 h2 ht h.1 (hk _ _ _ _ _ h.2)
      · exact h.elim
    · obtain ⟨⟨h1, h2, ht⟩, h⟩ := zgd_of h
      have hS := zk_of (S := S) (k := zk S _) rfl (fun e => by rw [e] at h1; exact zF_999 h1)
      exact r_st hI (by simp only [zst, zput, hS, ht]; rw [if_pos ⟨h1, h2⟩]) (hk _ _ _ _ _ h)
    · exact h.elim
  · -- iaload
    split at h
    · obtain ⟨h1, h2, h⟩ := zgd_of h
      exact r_iald hI (zk_of h1 (by decide)) h2 (hk _ _ _ _ _ h)
    · split at h
      · rename_i hn; exact r_tald hI hn h.1 (hk _ _ _ _ _ h.2)
      · exact h.elim
    · exact h.elim
  · split at h
    · obtain ⟨h1, h2, h⟩ := zgd_of h
      exact r_bald hI (h1.imp (fun e => zk_of e (by decide)) (fun e => zk_of e (by decide))) h2 (hk _ _ _ _ _ h)
    · split at h
      · rename_i hn; exact r_bytes hI hn h.1 (hk _ _ _ _ _ h.2)
      · exact h.elim
    · exact h.elim
  · split at h
    · obtain ⟨h1, h2, h⟩ := zgd_of h
      exact r_lald hI (zk_of h1 (by decide)) h2 (hk _ _ _ _ _ h)
    · exact h.elim
  · split at h
    · obtain ⟨h1, h2, h⟩ := zgd_of h
      exact r_aald hI (zk_of rfl (by rcases h1 with e | e | e | e | e <;> rw [e] <;> decide)) h1 h2 rfl (hk _ _ _ _ _ (zsp_of h))
    · exact h.elim
  · split at h
    · obtain ⟨h1, h⟩ := zgd_of h
      exact r_len hI (zk_of rfl (fun e => by rw [e] at h1; exact absurd h1.2 (by decide))) h1 rfl (hk _ _ _ _ _ h)
    · split at h
      · rename_i hn; exact r_tlen hI hn rfl (hk _ _ _ _ _ h)
      · exact h.elim
    · exact h.elim
  · split at h
    · obtain ⟨h1, h2, h⟩ := zgd_of h
      exact r_iast hI (zk_of h1 (by decide)) h2 (hk _ _ _ _ _ h)
    · exact h.elim
  · split at h
    · obtain ⟨h1, h2, h⟩ := zgd_of h
      rcases h1 with e | e
      · rw [if_pos e] at h; exact r_bast hI (zk_of e (by decide)) h2 (hk _ _ _ _ _ h)
      · rw [if_neg (by rw [e]; decide)] at h
        exact r_st hI (by simp only [zst, zast, zk_of e (by decide)]; rw [if_pos ⟨rfl, h2⟩]) (hk _ _ _ _ _ h)
    · exact h.elim
  · split at h
    · obtain ⟨h1, h2, h⟩ := zgd_of h
      exact r_last hI (zk_of h1 (by decide)) h2 (hk _ _ _ _ _ h)
    · exact h.elim
  · split at h
    · exact r_idiv hI h.1 (hk _ _ _ _ _ h.2)
    · exact h.elim
  · split at h
    · exact r_irem hI h.1 (hk _ _ _ _ _ h.2)
    · exact h.elim
  · split at h
    · exact r_ldiv hI h.1 (hk _ _ _ _ _ h.2)
    · exact h.elim
  · split at h
    · exact r_lrem hI h.1 (hk _ _ _ _ _ h.2)
    · exact h.elim
  · -- copy
    split at h
    · split at h
      · rename_i hc
        obtain ⟨⟨h1, h2⟩, ⟨h3, h4, h5, h6, h7⟩, h⟩ := zgd_of h
        have h1' := h1
        rcases h1 with e | e
        · rw [if_pos e] at h
          rw [e] at h2
          exact r_st hI (by simp only [zst, zcopy, zk_of e (by decide), zk_of h2 (by decide)]; rw [if_pos ⟨trivial, h3, h4, h5, h6, h7, hc⟩]) (hk _ _ _ _ _ h)
        · rw [if_neg (by rw [e]; decide)] at h
          rw [e] at h2
          exact r_st hI (by simp only [zst, zcopy, zk_of e (by decide), zk_of h2 (by decide)]; rw [if_pos ⟨trivial, h3, h4, h5, h6, h7, hc⟩]) (hk _ _ _ _ _ h)
      · exact h.elim
    · exact h.elim
  · -- ireturn
    split at h
    · split at h
      · rename_i hr; exact r_iret hI (by rw [hr]; rfl) ⟨rfl, rfl, h⟩
      · rename_i hr
        obtain ⟨h1, h⟩ := zgd_of h
        exact r_iret hI (by rw [hr]; exact z_nar_bool h1) ⟨rfl, rfl, h⟩
      · exact r_iret hI h.1 ⟨rfl, rfl, h.2⟩
    · exact h.elim
  · split at h
    · exact r_ret hI rfl rfl rfl ⟨rfl, rfl, h⟩
    · exact h.elim
  · split at h
    · exact r_ret hI rfl rfl rfl ⟨rfl, rfl, h⟩
    · exact h.elim
  · split at h
    · exact r_ret hI rfl rfl rfl ⟨rfl, rfl, h⟩
    · exact r_ret hI rfl rfl rfl ⟨rfl, rfl, h⟩
    · exact h.elim
  · -- static
    split at h
    · rename_i hg
      split at h
      · rename_i j1 ht
        split at h
        · rename_i hz
          exact r_call hI rfl rfl rfl rfl rfl hg.1 rfl rfl ht hg.2 hz (Tz.mono (zcal_of h) (fun r _ _ _ _ q => by obtain ⟨a, b, c⟩ := q; subst a; subst b; exact hk _ _ _ _ _ c))
        · exact h.elim
      · exact h.elim
    · exact h.elim
  · split at h
    · rename_i hg
      split at h
      · obtain ⟨j1, ht, hz, h⟩ := h
        exact r_call hI rfl rfl rfl rfl rfl hg.1 rfl rfl ht hg.2 hz (Tz.mono (zcal_of h) (fun r _ _ _ _ q => by obtain ⟨a, b, c⟩ := q; subst a; subst b; exact hk _ _ _ _ _ c))
      · split at h
        · rename_i j1 ht
          split at h
          · rename_i hz
            exact r_call hI rfl rfl rfl rfl rfl hg.1 rfl rfl ht hg.2 hz (Tz.mono (zcal_of h) (fun r _ _ _ _ q => by obtain ⟨a, b, c⟩ := q; subst a; subst b; exact hk _ _ _ _ _ c))
          · exact h.elim
        · exact h.elim
    · exact h.elim
  · split at h
    · rename_i hg
      split at h
      · obtain ⟨j1, ht, hz, h⟩ := h
        exact r_call hI rfl rfl rfl rfl rfl hg.1 rfl rfl ht hg.2 hz (Tz.mono (zcal_of h) (fun r _ _ _ _ q => by obtain ⟨a, b, c⟩ := q; subst a; subst b; exact hk _ _ _ _ _ c))
      · split at h
        · rename_i j1 ht
          split at h
          · rename_i hz
            exact r_call hI rfl rfl rfl rfl rfl hg.1 rfl rfl ht hg.2 hz (Tz.mono (zcal_of h) (fun r _ _ _ _ q => by obtain ⟨a, b, c⟩ := q; subst a; subst b; exact hk _ _ _ _ _ c))
          · exact h.elim
        · exact h.elim
    · exact h.elim
  · -- the others
    split at h
    · rename_i hp hs
      obtain ⟨e1, e2⟩ := zplain_of hp hs
      subst e1; subst e2
      exact r_st hI hs (hk _ _ _ _ _ h)
    · exact h.elim
/-- the whole stretch, to the loops' heads -/
def zwp (S : zS) (R : zR0) (d j : Nat) (cs gs : List Nat) (Q : zQ) : Nat → Nat → List Value → List Value → zI → zJ → Prop
  | 0, _, _, _, _, _ => False
  | n + 1, i, L, st, mi, ml => match (zC j)[i]? with
    | none => False
    | some I => zw1 S R d j i (gs.contains i) (gs.contains (i + 10000)) Q I L st mi ml (fun i1 L1 st1 mi1 ml1 => match cs.contains i1 with
      | true => Wf (d + 1) j i1 L1 st1 S R mi1 ml1 Q
      | false => zwp S R d j cs gs Q n i1 L1 st1 mi1 ml1)
theorem zwp_of {S : zS} {R : zR0} {d j : Nat} {cs gs : List Nat} {Q : zQ} : ∀ {n i : Nat} {L st : List Value} {mi : zI} {ml : zJ}, zwp S R d j cs gs Q n i L st mi ml → Wf (d + 1) j i L st S R mi ml Q
  | 0, _, _, _, _, _, h => h.elim
  | n + 1, i, L, st, mi, ml, h => by
    unfold zwp at h
    split at h
    · exact h.elim
    · rename_i I hI
      refine zw1_of hI ?_ h
      intro i1 L1 st1 mi1 ml1 h1
      split at h1
      · exact h1
      · exact zwp_of h1
