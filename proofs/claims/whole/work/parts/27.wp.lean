-- @after: 00.privs 01.names 02.code 03.tabs 04.mach 05.rows 26.rows2
/-! A program's condition, computed: zwp lays for a place of a method what has to hold for it to end as Q asks; cs are the loops' heads, at gs what is known of a cell is asked for, elsewhere it is computed.
Cells and references stay as they are. -/
abbrev zQ : Type := Option Value → zI → zJ → Prop
def Wf (d j i : Nat) (L st : List Value) (S : zS) (R : zR0) (mi : zI) (ml : zJ) (Q : zQ) : Prop := Wz d j i L st S R mi ml (fun r S1 R1 mi1 ml1 => S1 = S ∧ R1 = R ∧ Q r mi1 ml1)
def Tf (d j : Nat) (args : List Value) (S : zS) (R : zR0) (mi : zI) (ml : zJ) (Q : zQ) : Prop := Wf d j 0 (zent args (zM j).1) [] S R mi ml Q
def qI (K : Int32 → zI → zJ → Prop) : zQ := fun r mi ml => match r with | some (.int v) => K v mi ml | _ => False
def qL (K : Int64 → zI → zJ → Prop) : zQ := fun r mi ml => match r with | some (.long v) => K v mi ml | _ => False
def qV (K : zI → zJ → Prop) : zQ := fun r mi ml => match r with | none => K mi ml | _ => False
def qA (K : Nat → zI → zJ → Prop) : zQ := fun r mi ml => match r with | some .null => K 0 mi ml | some (.ref c) => K (c + 1) mi ml | _ => False
theorem TI_of {d j : Nat} {args : List Value} {S : zS} {R : zR0} {mi : zI} {ml : zJ} {K : Int32 → zI → zJ → Prop} (h : Tf d j args S R mi ml (qI K)) : TI d j args S R mi ml K :=
  Wz.mono h (fun r _ _ _ _ q => by
    obtain ⟨a, b, c⟩ := q
    unfold qI at c
    split at c
    · exact ⟨_, rfl, a, b, c⟩
    · exact c.elim)
theorem TL_of {d j : Nat} {args : List Value} {S : zS} {R : zR0} {mi : zI} {ml : zJ} {K : Int64 → zI → zJ → Prop} (h : Tf d j args S R mi ml (qL K)) : TL d j args S R mi ml K :=
  Wz.mono h (fun r _ _ _ _ q => by
    obtain ⟨a, b, c⟩ := q
    unfold qL at c
    split at c
    · exact ⟨_, rfl, a, b, c⟩
    · exact c.elim)
theorem TV_of {d j : Nat} {args : List Value} {S : zS} {R : zR0} {mi : zI} {ml : zJ} {K : zI → zJ → Prop} (h : Tf d j args S R mi ml (qV K)) : TV d j args S R mi ml K :=
  Wz.mono h (fun r _ _ _ _ q => by
    obtain ⟨a, b, c⟩ := q
    unfold qV at c
    split at c
    · exact ⟨rfl, a, b, c⟩
    · exact c.elim)
theorem TA_of {d j : Nat} {args : List Value} {S : zS} {R : zR0} {mi : zI} {ml : zJ} {K : Nat → zI → zJ → Prop} (h : Tf d j args S R mi ml (qA K)) : TA d j args S R mi ml K :=
  Wz.mono h (fun r _ _ _ _ q => by
    obtain ⟨a, b, c⟩ := q
    unfold qA at c
    split at c
    · exact ⟨0, rfl, a, b, c⟩
    · exact ⟨_, rfl, a, b, c⟩
    · exact c.elim)
def zgd (g b : Bool) (X : Prop) : Prop := match g with
  | true => b = true ∧ X
  | false => (match b with | true => X | false => False)
theorem zgd_of {g b : Bool} {X : Prop} (h : zgd g b X) : b = true ∧ X := by
  unfold zgd at h
  cases g with
  | true => exact h
  | false => cases b with
    | true => exact ⟨rfl, h⟩
    | false => exact h.elim
def zhas : List Nat → Nat → Bool
  | [], _ => false
  | a :: l, b => match Nat.beq a b with | true => true | false => zhas l b
theorem zhas_iff {l : List Nat} {b : Nat} : zhas l b = true ↔ l.contains b = true := by
  induction l with
  | nil => simp [zhas]
  | cons a l ih =>
    unfold zhas
    cases h : Nat.beq a b with
    | true => have := Nat.eq_of_beq_eq_true h; subst this; simp
    | false =>
      have : ¬ b = a := fun e => by subst e; rw [Nat.beq_refl] at h; exact Bool.noConfusion h
      simp only [ih]
      simp [this]
def zand (a b : Bool) : Bool := match a with | true => b | false => false
theorem zand_iff {a b : Bool} : zand a b = true ↔ a = true ∧ b = true := by cases a <;> simp [zand]
def zor (a b : Bool) : Bool := match a with | true => true | false => b
theorem zor_iff {a b : Bool} : zor a b = true ↔ a = true ∨ b = true := by cases a <;> simp [zor]
theorem zbeq {a b : Nat} (h : Nat.beq a b = true) : a = b := Nat.eq_of_beq_eq_true h
theorem zblt {a b : Nat} (h : Nat.blt a b = true) : a < b := Nat.le_of_ble_eq_true h
theorem zble {a b : Nat} (h : Nat.ble a b = true) : a ≤ b := Nat.le_of_ble_eq_true h
/-- a place of a list -/
def zgl {α : Type} : List α → Nat → Option α
  | [], _ => none
  | a :: _, 0 => some a
  | _ :: l, k + 1 => zgl l k
theorem zgl_eq {α : Type} : ∀ (l : List α) (k : Nat), zgl l k = l[k]?
  | [], _ => by simp [zgl]
  | a :: l, 0 => by simp [zgl]
  | a :: l, k + 1 => by simp [zgl, zgl_eq l k]
def zdr {α : Type} : List α → Nat → List α
  | l, 0 => l
  | [], _ + 1 => []
  | _ :: l, k + 1 => zdr l k
theorem zdr_eq {α : Type} : ∀ (l : List α) (k : Nat), zdr l k = l.drop k
  | l, 0 => by simp [zdr]
  | [], k + 1 => by simp [zdr]
  | a :: l, k + 1 => by simp [zdr, zdr_eq l k]
def zk (S : zS) (c : Nat) : Nat := match zgl S c with | some q => q.1 | none => 999
def zn (S : zS) (c : Nat) : Nat := match zgl S c with | some q => q.2 | none => 0
theorem zk_of {S : zS} {c k : Nat} (h : zk S c = k) (hk : k ≠ 999) : S[c]? = some (k, zn S c) := by
  unfold zk at h; unfold zn
  rw [zgl_eq] at h ⊢
  cases hS : S[c]? with
  | none => rw [hS] at h; exact absurd h.symm hk
  | some q => rw [hS] at h; subst h; rfl
/-- no field is of the class 999 -/
theorem zF_999 {f : Nat} (h : (zF f).1.contains 999 = true) : False := by
  unfold zF at h
  cases h1 : zFs[f / 16]? with
  | none => simp [h1] at h
  | some l =>
    have hl : l ∈ zFs := List.mem_of_getElem? h1
    cases h2 : l[f % 16]? with
    | none => simp [h1, h2] at h
    | some q =>
      have hq : q ∈ l := List.mem_of_getElem? h2
      simp only [h1, h2, Option.getD_some] at h
      exact absurd h (by
        have : ∀ l ∈ zFs, ∀ q ∈ l, q.1.contains 999 = false := by decide +kernel
        rw [this l hl q hq]; decide)
/-- a reference: computed, or split; g2: it may be null -/
def zsp (g g2 : Bool) (v : Nat) (k : Value → Prop) : Prop := match g, g2 with
  | true, true => (v = 0 → k .null) ∧ (∀ c, v = c + 1 → k (.ref c))
  | true, false => v ≠ 0 ∧ (∀ c, v = c + 1 → k (.ref c))
  | false, _ => k (zrv v)
theorem zsp_of {g g2 : Bool} {v : Nat} {k : Value → Prop} (h : zsp g g2 v k) : k (zrv v) := by
  cases g with
  | false => exact h
  | true =>
    cases v with
    | zero => cases g2 with
      | true => exact h.1 rfl
      | false => exact absurd rfl h.1
    | succ c => cases g2 with
      | true => exact h.2 c rfl
      | false => exact h.2 c rfl
/-- a branch: computed, or split -/
def zbr (g b : Bool) (P A B : Prop) : Prop := match g with
  | true => (match b with | true => A | false => B)
  | false => (P → A) ∧ (¬ P → B)
theorem zbr_of {g b : Bool} {P A B : Prop} (e : b = true ↔ P) (h : zbr g b P A B) : (P → A) ∧ (¬ P → B) := by
  cases g with
  | false => exact h
  | true =>
    cases b with
    | true => exact ⟨fun _ => h, fun n => absurd (e.mp rfl) n⟩
    | false => exact ⟨fun p => Bool.noConfusion (e.mpr p), fun _ => h⟩
def zsw2 (a : Int32) (W : Nat → Prop) (d : Int) : List (Int × Int) → Prop
  | [] => W d.toNat
  | q :: l => (a = Int32.ofInt q.1 → W q.2.toNat) ∧ (¬ a = Int32.ofInt q.1 → zsw2 a W d l)
theorem zsw2_of {a : Int32} {d : Int} {W : Nat → Prop} : ∀ {l : List (Int × Int)}, zsw2 a W d l → zswF a d W l
  | [], h => h
  | q :: l, h => ⟨h.1, fun e => zsw2_of (h.2 e)⟩
theorem zsw2_mono {a : Int32} {d : Int} {W W' : Nat → Prop} (hw : ∀ t, W t → W' t) : ∀ {l : List (Int × Int)}, zswF a d W l → zswF a d W' l
  | [], h => hw _ h
  | q :: l, h => ⟨fun e => hw _ (h.1 e), fun e => zsw2_mono hw (h.2 e)⟩
/-- a call's condition -/
def zcal (k : Nat) (d j1 : Nat) (args : List Value) (S : zS) (R : zR0) (mi : zI) (ml : zJ) (X : List Value → zI → zJ → Prop) (g g2 : Bool) : Prop := match k with
  | 0 => TV d j1 args S R mi ml (fun mi1 ml1 => X [] mi1 ml1)
  | 5 => TL d j1 args S R mi ml (fun v mi1 ml1 => X [.long v] mi1 ml1)
  | 6 => TA d j1 args S R mi ml (fun v mi1 ml1 => zsp g g2 v (fun w => X [w] mi1 ml1))
  | _ => TI d j1 args S R mi ml (fun v mi1 ml1 => X [.int v] mi1 ml1)
theorem zcal_of {k d j1 : Nat} {args : List Value} {S : zS} {R : zR0} {mi : zI} {ml : zJ} {X : List Value → zI → zJ → Prop} {g g2 : Bool} (h : zcal k d j1 args S R mi ml X g g2) :
    Tz d j1 args S R mi ml (fun r S1 R1 mi1 ml1 => S1 = S ∧ R1 = R ∧ X r.toList mi1 ml1) := by
  unfold zcal at h
  split at h
  · exact Tz.mono h (fun r _ _ _ _ ⟨a, b, c, e⟩ => by subst a; exact ⟨b, c, e⟩)
  · exact Tz.mono h (fun r _ _ _ _ ⟨v, a, b, c, e⟩ => by subst a; exact ⟨b, c, e⟩)
  · exact Tz.mono h (fun r _ _ _ _ ⟨v, a, b, c, e⟩ => by subst a; exact ⟨b, c, zsp_of e⟩)
  · exact Tz.mono h (fun r _ _ _ _ ⟨v, a, b, c, e⟩ => by subst a; exact ⟨b, c, e⟩)
def zcat : List Value → Nat
  | [] => 0
  | v :: l => (match v with | .long _ => 2 | .double _ => 2 | _ => 1) + zcat l
theorem zcat_eq : ∀ l : List Value, zcat l = (l.map fun v => v.category).sum
  | [] => rfl
  | v :: l => by
    rw [List.map_cons, List.sum_cons, ← zcat_eq l]
    cases v <;> rfl
/-- a local is set, the list laid open -/
def zsk : List Value → Nat → Value → (List Value → Prop) → Prop
  | [], _, _, _ => False
  | _ :: l, 0, v, c => c (v :: l)
  | a :: l, k + 1, v, c => zsk l k v (fun l1 => c (a :: l1))
theorem zsk_of : ∀ {L : List Value} {k : Nat} {v : Value} {c : List Value → Prop}, zsk L k v c → k < L.length ∧ c (L.set k v)
  | [], _, _, _, h => h.elim
  | _ :: l, 0, v, c, h => ⟨by simp, h⟩
  | a :: l, k + 1, v, c, h => by
    obtain ⟨h1, h2⟩ := zsk_of (L := l) h
    exact ⟨by simpa using h1, h2⟩
/-- a long below a place goes -/
def zlw (L : List Value) (k : Nat) (c : List Value → Prop) : Prop := match k with
  | 0 => c L
  | q + 1 => match zgl L q with
    | some (.long _) => zsk L q (.retAddr 0) c
    | some (.double _) => False
    | some _ => c L
    | none => False
def zlow (L : List Value) (k : Nat) : List Value := match k with
    | 0 => L
    | k + 1 => match L[k]? with
      | some w => if w.category = 2 then L.set k (.retAddr 0) else L
      | none => L
theorem zlw_of {L : List Value} {c : List Value → Prop} : ∀ {k : Nat}, zlw L k c → c (zlow L k)
  | 0, h => h
  | q + 1, h => by
    unfold zlw at h
    unfold zlow
    simp only at h ⊢
    rw [zgl_eq] at h
    cases hw : L[q]? with
    | none => rw [hw] at h; exact h.elim
    | some w =>
      rw [hw] at h
      cases w <;> first | (exact (zsk_of h).2) | (exact h.elim) | (exact h)
/-- a store -/
def zsv (L : List Value) (k : Nat) (v : Value) (c : List Value → Prop) : Prop := zlw L k (fun L1 => zsk L1 k v c)
theorem zlen_low (L : List Value) (k : Nat) : (zlow L k).length = L.length := by
  unfold zlow
  split
  · rfl
  · split
    · split <;> simp
    · rfl
theorem zsv_of {L : List Value} {k : Nat} {v : Value} {c : List Value → Prop} (hv : ¬ v.category = 2) (h : zsv L k v c) : k < L.length ∧ c (zls L k v) := by
  have h1 := zlw_of h
  obtain ⟨h2, h3⟩ := zsk_of h1
  rw [zlen_low] at h2
  refine ⟨h2, ?_⟩
  unfold zls
  simp only [if_neg hv]
  exact h3
def zsvl (L : List Value) (k : Nat) (v : Value) (c : List Value → Prop) : Prop := zlw L k (fun L1 => zsk L1 k v (fun L2 => zsk L2 (k + 1) (.retAddr 0) c))
theorem zsvl_of {L : List Value} {k : Nat} {v : Value} {c : List Value → Prop} (hv : v.category = 2) (h : zsvl L k v c) : k + 1 < L.length ∧ c (zls L k v) := by
  have h1 := zlw_of h
  obtain ⟨h2, h3⟩ := zsk_of h1
  obtain ⟨h4, h5⟩ := zsk_of h3
  rw [List.length_set, zlen_low] at h4
  refine ⟨h4, ?_⟩
  unfold zls
  simp only [if_pos hv]
  exact h5
/-- a stack's top, turned -/
def ztk : Nat → List Value → List Value → (List Value → List Value → Prop) → Prop
  | 0, st, acc, c => c acc st
  | _ + 1, [], _, _ => False
  | n + 1, v :: st, acc, c => ztk n st (v :: acc) c
theorem ztk_of : ∀ {n : Nat} {st acc : List Value} {c : List Value → List Value → Prop}, ztk n st acc c → n ≤ st.length ∧ c ((st.take n).reverse ++ acc) (st.drop n)
  | 0, st, acc, c, h => ⟨by simp, by simpa [ztk] using h⟩
  | n + 1, [], acc, c, h => h.elim
  | n + 1, v :: st, acc, c, h => by
    obtain ⟨h1, h2⟩ := ztk_of (n := n) (st := st) h
    exact ⟨by simpa using h1, by simpa using h2⟩
def zaln : Nat → List Value → Nat
  | n, [] => n
  | n, v :: l => match v with
    | .long _ => zaln (n + 2) l
    | .double _ => zaln (n + 2) l
    | _ => zaln (n + 1) l
theorem zaln_eq : ∀ (l : List Value) (n : Nat), zaln n l = n + (zarg l).length
  | [], n => by simp [zaln, zarg]
  | v :: l, n => by
    unfold zarg
    cases v <;> simp only [zaln, Value.category] <;> rw [zaln_eq l] <;> simp <;> omega
def zapp (r rest : List Value) : List Value := match r with
  | [] => rest
  | v :: _ => v :: rest
theorem zapp_eq {r : Option Value} {rest : List Value} : zapp r.toList rest = r.toList ++ rest := by cases r <;> rfl
/-- a call: its arguments and the rest of the stack -/
def zcl2 (n : Nat) (st : List Value) (c : List Value → List Value → Prop) : Prop := ztk n st [] (fun args rest => match Nat.ble (zcat rest) 8 with
  | true => c args rest
  | false => False)
theorem zcl2_of {n : Nat} {st : List Value} {c : List Value → List Value → Prop} (h : zcl2 n st c) : n ≤ st.length ∧ ((st.drop n).map fun v => v.category).sum ≤ 8 ∧ c (st.take n).reverse (st.drop n) := by
  obtain ⟨h1, h2⟩ := ztk_of h
  split at h2
  · rename_i hb
    rw [List.append_nil] at h2
    exact ⟨h1, by rw [← zcat_eq]; exact zble hb, h2⟩
  · exact h2.elim
/-- a cell's kind and length: asked of the memory, or of what is known of it -/
def zkg (g : Bool) (S sh : zS) (c : Nat) : Nat := match g with | true => zk S c | false => zk sh c
def zng (g : Bool) (S sh : zS) (c : Nat) : Nat := match g with | true => zn S c | false => zn sh c
def zkn (S sh : zS) : Prop := ∀ (c : Nat) (q : Nat × Nat), sh[c]? = some q → S[c]? = some q
theorem zkg_of {S sh : zS} (hs : zkn S sh) {g : Bool} {c k : Nat} (h : zkg g S sh c = k) (hk : k ≠ 999) : S[c]? = some (k, zng g S sh c) := by
  cases g with
  | true => exact zk_of h hk
  | false => exact hs _ _ (zk_of h hk)
def zplain (I : Instr) : Bool := match I with
  | .new _ => false
  | .newarray _ => false
  | .anewarray _ => false
  | .multianewarray _ _ => false
  | .aastore => false
  | .iastore => false
  | .lastore => false
  | .bastore => false
  | .putfield _ => false
  | _ => true
/-- one step's condition, with what comes after it: kn the next, kj a jump -/
def zw1 (S : zS) (R : zR0) (sh : zS) (d j : Nat) (g g2 : Bool) (Q : zQ) (I : Instr) (L st : List Value) (mi : zI) (ml : zJ) (kn : List Value → List Value → zI → zJ → Prop) (kj : Nat → List Value → List Value → zI → zJ → Prop) : Prop := match I with
  | .iconst n => kn L (.int (Int32.ofInt n) :: st) mi ml
  | .iload q => match zgl L q with
    | some (.int a) => kn L (.int a :: st) mi ml
    | _ => False
  | .aload q => match zgl L q with
    | some (.ref a) => kn L (.ref a :: st) mi ml
    | some .null => kn L (.null :: st) mi ml
    | some (.retAddr (n + 1)) => kn L (.retAddr (n + 1) :: st) mi ml
    | _ => False
  | .lload q => match zgl L q with
    | some (.long a) => kn L (.long a :: st) mi ml
    | _ => False
  | .istore q => match st with
    | .int a :: st => zsv L q (.int a) (fun L1 => kn L1 st mi ml)
    | _ => False
  | .lstore q => match st with
    | .long a :: st => zsvl L q (.long a) (fun L1 => kn L1 st mi ml)
    | _ => False
  | .astore q => match st with
    | .ref a :: st => zsv L q (.ref a) (fun L1 => kn L1 st mi ml)
    | .null :: st => zsv L q .null (fun L1 => kn L1 st mi ml)
    | _ => False
  | .ret q => zsk L q (.retAddr 0) (fun L1 => kn L1 st mi ml)
  | .iinc q n => match zgl L q with
    | some (.int x) => zsv L q (.int (x + Int32.ofInt n)) (fun L1 => kn L1 st mi ml)
    | _ => False
  | .ifCond c t => match st with
    | .int a :: st => zbr g (zcondB c a 0) (zcond c a 0) (kj t.toNat L st mi ml) (kn L st mi ml)
    | _ => False
  | .if_icmp c t => match st with
    | .int b :: .int a :: st => zbr g (zcondB c a b) (zcond c a b) (kj t.toNat L st mi ml) (kn L st mi ml)
    | _ => False
  | .goto t => kj t.toNat L st mi ml
  | .ifnull t => match st with
    | .null :: st => kj t.toNat L st mi ml
    | .ref _ :: st => kn L st mi ml
    | _ => False
  | .ifnonnull t => match st with
    | .null :: st => kn L st mi ml
    | .ref _ :: st => kj t.toNat L st mi ml
    | _ => False
  | .lookupswitch df ps => match st with
    | .int a :: st => zsw2 a (fun t => kj t L st mi ml) df ps.toList
    | _ => False
  | .getfield f => match zF f, st with
    | (cl, q, ty), .ref c :: st => zgd g (zand (zhas cl (zkg g S sh c)) (Nat.blt q (zng g S sh c))) (match ty with
      | 0 => kn L (.int (mi c q) :: st) mi ml
      | 3 => kn L (.int (mi c q) :: st) mi ml
      | 1 => kn L (.long (ml c q) :: st) mi ml
      | 2 => zsp g g2 (R c q) (fun v => kn L (v :: st) mi ml)
      | _ => False)
    | (_, q, ty), .retAddr n :: st => match zand (Nat.ble 10 n) (zand (Nat.blt n 17) (Nat.beq ty 5)), q with
      | true, 0 => kn L (.retAddr (n + 10) :: st) mi ml
      | true, 1 => kn L (.int 0 :: st) mi ml
      | _, _ => False
    | _, _ => False
  | .putfield f => match zF f, st with
    | (cl, q, ty), .int x :: .ref c :: st => zgd g (zand (zhas cl (zkg g S sh c)) (Nat.blt q (zng g S sh c))) (match ty with
      | 0 => kn L st (zu mi c q x) ml
      | 3 => (x = 0 ∨ x = 1) ∧ kn L st (zu mi c q x) ml
      | _ => False)
    | (cl, q, ty), .long x :: .ref c :: st => zgd g (zand (zhas cl (zkg g S sh c)) (zand (Nat.blt q (zng g S sh c)) (Nat.beq ty 1))) (kn L st mi (zu ml c q x))
    | _, _ => False
  | .iaload => match st with
    | .int x :: .ref c :: st => zgd g (Nat.beq (zkg g S sh c) 100) (zin x (zng g S sh c) = true ∧ kn L (.int (mi c x.toNatClampNeg) :: st) mi ml)
    | .int x :: .retAddr n :: st => match zand (Nat.ble 1 n) (Nat.ble n 3) with
      | true => zin x (zTab n).length = true ∧ kn L (.int ((zTab n).getD x.toNatClampNeg 0) :: st) mi ml
      | false => False
    | _ => False
  | .baload => match st with
    | .int x :: .ref c :: st => zgd g (zor (Nat.beq (zkg g S sh c) 102) (Nat.beq (zkg g S sh c) 103)) (zin x (zng g S sh c) = true ∧ kn L (.int (mi c x.toNatClampNeg) :: st) mi ml)
    | .int x :: .retAddr n :: st => match zand (Nat.ble 20 n) (Nat.ble n 26) with
      | true => zin x (zTab n).length = true ∧ kn L (.int ((zTab n).getD x.toNatClampNeg 0) :: st) mi ml
      | false => False
    | _ => False
  | .laload => match st with
    | .int x :: .ref c :: st => zgd g (Nat.beq (zkg g S sh c) 101) (zin x (zng g S sh c) = true ∧ kn L (.long (ml c x.toNatClampNeg) :: st) mi ml)
    | _ => False
  | .aaload => match st with
    | .int x :: .ref c :: st => match zand (Nat.ble 104 (zk sh c)) (Nat.ble (zk sh c) 108) with
      | true => zin x (zn sh c) = true ∧ zsp g g2 (R c x.toNatClampNeg) (fun v => kn L (v :: st) mi ml)
      | false => False
    | _ => False
  | .arraylength => match st with
    | .ref c :: st => zgd g (zand (Nat.ble 100 (zkg g S sh c)) (Nat.ble (zkg g S sh c) 108)) (kn L (.int (Int32.ofNat (zng g S sh c)) :: st) mi ml)
    | .retAddr n :: st => match zor (zand (Nat.ble 1 n) (Nat.ble n 3)) (zand (Nat.ble 20 n) (Nat.ble n 26)) with
      | true => kn L (.int (Int32.ofNat (zTab n).length) :: st) mi ml
      | false => False
    | _ => False
  | .iastore => match st with
    | .int v :: .int x :: .ref c :: st => zgd g (Nat.beq (zkg g S sh c) 100) (zin x (zng g S sh c) = true ∧ kn L st (zu mi c x.toNatClampNeg v) ml)
    | _ => False
  | .bastore => match st with
    | .int v :: .int x :: .ref c :: st => match zk sh c with
      | 102 => zin x (zn sh c) = true ∧ kn L st (zu mi c x.toNatClampNeg v.toInt8.toInt32) ml
      | 103 => zin x (zn sh c) = true ∧ kn L st (zu mi c x.toNatClampNeg (v &&& 1)) ml
      | _ => False
    | _ => False
  | .lastore => match st with
    | .long v :: .int x :: .ref c :: st => zgd g (Nat.beq (zkg g S sh c) 101) (zin x (zng g S sh c) = true ∧ kn L st mi (zu ml c x.toNatClampNeg v))
    | _ => False
  | .idiv => match st with
    | .int b :: .int a :: st => ¬ b = 0 ∧ kn L (.int (a / b) :: st) mi ml
    | _ => False
  | .irem => match st with
    | .int b :: .int a :: st => ¬ b = 0 ∧ kn L (.int (a % b) :: st) mi ml
    | _ => False
  | .ldiv => match st with
    | .long b :: .long a :: st => ¬ b = 0 ∧ kn L (.long (a / b) :: st) mi ml
    | _ => False
  | .lrem => match st with
    | .long b :: .long a :: st => ¬ b = 0 ∧ kn L (.long (a % b) :: st) mi ml
    | _ => False
  | .monitorenter => match st with
    | .int n :: .int dp :: .ref e :: .int sp :: .ref c :: st => match Nat.ble (zcat st) 8 with
      | true => zgd g (zand (zor (Nat.beq (zkg g S sh c) 100) (Nat.beq (zkg g S sh c) 101)) (Nat.beq (zkg g S sh e) (zkg g S sh c))) ((¬ sp < 0 ∧ ¬ dp < 0 ∧ ¬ n < 0 ∧ sp.toNatClampNeg + n.toNatClampNeg ≤ zng g S sh c ∧ dp.toNatClampNeg + n.toNatClampNeg ≤ zng g S sh e) ∧
        (match Nat.beq (zkg g S sh c) 100 with
        | true => kn L st (zcp mi e (mi c) sp.toNatClampNeg dp.toNatClampNeg n.toNatClampNeg) ml
        | false => kn L st mi (zcp ml e (ml c) sp.toNatClampNeg dp.toNatClampNeg n.toNatClampNeg)))
      | false => False
    | _ => False
  | .ireturn => match st with
    | [.int a] => match (zM j).2.2 with
      | 1 => Q (some (.int a)) mi ml
      | 2 => (match g with | true => (a = 0 ∨ a = 1) ∧ Q (some (.int a)) mi ml | false => (match zor (zcondB .eq a 0) (zcondB .eq a 1) with | true => Q (some (.int a)) mi ml | false => False))
      | q => narrow (zrty q) (.int a) = .int a ∧ Q (some (.int a)) mi ml
    | _ => False
  | .return_ => match st with
    | [] => Q none mi ml
    | _ => False
  | .lreturn => match st with
    | [.long a] => Q (some (.long a)) mi ml
    | _ => False
  | .areturn => match st with
    | [.ref a] => Q (some (.ref a)) mi ml
    | [.null] => Q (some .null) mi ml
    | _ => False
  | .invokestatic v => match zV v with
    | (n, _, _) => zcl2 n st (fun args rest => match ztg sh v args with
      | some j1 => (match zM j1 with
        | (ln, _, rk) => match Nat.ble (zaln 0 args) ln with
          | true => zcal rk d j1 args S R mi ml (fun r mi1 ml1 => kn L (zapp r rest) mi1 ml1) true g2
          | false => False)
      | none => False)
  | .invokespecial v => match zV v, g with
    | (n, _, tg), true => zcl2 n st (fun args rest => ∃ j1, ztg S v args = some j1 ∧ (zarg args).length ≤ (zM j1).1 ∧ zcal (zM ((zgl tg 0).getD (0, 0)).2).2.2 d j1 args S R mi ml (fun r mi1 ml1 => kn L (zapp r rest) mi1 ml1) true g2)
    | (n, _, tg), false => zcl2 n st (fun args rest => match ztg sh v args with
      | some j1 => (match zM j1 with
        | (ln, _, rk) => match Nat.ble (zaln 0 args) ln with
          | true => zcal rk d j1 args S R mi ml (fun r mi1 ml1 => kn L (zapp r rest) mi1 ml1) true g2
          | false => False)
      | none => False)
  | .invokevirtual v => match zV v, g with
    | (n, _, tg), true => zcl2 n st (fun args rest => ∃ j1, ztg S v args = some j1 ∧ (zarg args).length ≤ (zM j1).1 ∧ zcal (zM ((zgl tg 0).getD (0, 0)).2).2.2 d j1 args S R mi ml (fun r mi1 ml1 => kn L (zapp r rest) mi1 ml1) true g2)
    | (n, _, tg), false => zcl2 n st (fun args rest => match ztg sh v args with
      | some j1 => (match zM j1 with
        | (ln, _, rk) => match Nat.ble (zaln 0 args) ln with
          | true => zcal rk d j1 args S R mi ml (fun r mi1 ml1 => kn L (zapp r rest) mi1 ml1) true g2
          | false => False)
      | none => False)
  | I => match zplain I, zst I L st S R mi ml with
    | true, some (L1, st1, _, _, mi1, ml1) => kn L1 st1 mi1 ml1
    | _, _ => False
theorem zplain_of {I : Instr} {L st : List Value} {S : zS} {R : zR0} {mi : zI} {ml : zJ} {L1 st1 : List Value} {S1 : zS} {R1 : zR0} {mi1 : zI} {ml1 : zJ} (hp : zplain I = true) (h : zst I L st S R mi ml = some (L1, st1, S1, R1, mi1, ml1)) : S1 = S ∧ R1 = R := by
  unfold zst at h
  split at h <;> first
    | (simp [zplain] at hp; done)
    | (try simp only [zbi, zbg, zbl, zun, zload, zstore, zget, zald, zast, zalen, zcopy] at h
       repeat' split at h
       all_goals (first | (cases h; exact ⟨rfl, rfl⟩) | (cases h) | (simp at h; done)))
theorem ztg_sh {S sh : zS} (hs : zkn S sh) {v : Nat} {args : List Value} {j1 : Nat} (h : ztg sh v args = some j1) : ztg S v args = some j1 := by
  unfold ztg at h ⊢
  generalize (zV v).2.1 = m at h ⊢
  generalize (zV v).2.2 = tg at h ⊢
  split at h
  · exact h
  · split at h
    · split at h
      · rename_i q; rw [hs _ _ q]; exact h
      · cases h
    · cases h
  · split at h
    · split at h
      · rename_i a _ _ ci hc
        have : zcls S a = some ci := by
          unfold zcls at hc ⊢
          split at hc
          · rename_i c
            cases hq : sh[c]? with
            | none => rw [hq] at hc; cases hc
            | some q => rw [hq] at hc; rw [hs _ _ hq]; exact hc
          · exact hc
          · cases hc
        rw [this]; exact h
      · cases h
    · cases h
  · cases h
theorem zw1_of {S : zS} {R : zR0} {sh : zS} (hs : zkn S sh) {d j i : Nat} {g g2 : Bool} {Q : zQ} {QQ : Option Value → zS → zR0 → zI → zJ → Prop} {I : Instr} {L st : List Value} {mi : zI} {ml : zJ} {kn : List Value → List Value → zI → zJ → Prop} {kj : Nat → List Value → List Value → zI → zJ → Prop}
    (hI : (zC j)[i]? = some I) (hn : ∀ L st mi ml, kn L st mi ml → Wz (d + 1) j (i + 1) L st S R mi ml QQ) (hj : ∀ i L st mi ml, kj i L st mi ml → Wz (d + 1) j i L st S R mi ml QQ) (hQ : ∀ r mi ml, Q r mi ml → QQ r S R mi ml) (h : zw1 S R sh d j g g2 Q I L st mi ml kn kj) : Wz (d + 1) j i L st S R mi ml QQ := by
  unfold zw1 at h
  split at h
  · exact r_st hI rfl (hn _ _ _ _ h)
  · split at h
    · rename_i e; rw [zgl_eq] at e
      exact r_st hI (by simp only [zst, zload, e]; rfl) (hn _ _ _ _ h)
    · exact h.elim
  · split at h
    · rename_i e; rw [zgl_eq] at e
      exact r_st hI (by simp only [zst, zload, e]; rfl) (hn _ _ _ _ h)
    · rename_i e; rw [zgl_eq] at e
      exact r_st hI (by simp only [zst, zload, e]; rfl) (hn _ _ _ _ h)
    · rename_i e; rw [zgl_eq] at e
      exact r_st hI (by simp only [zst, zload, e]; rfl) (hn _ _ _ _ h)
    · exact h.elim
  · split at h
    · rename_i e; rw [zgl_eq] at e
      exact r_st hI (by simp only [zst, zload, e]; rfl) (hn _ _ _ _ h)
    · exact h.elim
  · split at h
    · obtain ⟨h1, h2⟩ := zsv_of (by simp [Value.category]) h
      exact r_st hI (by simp only [zst, zstore]; rw [if_pos ⟨rfl, h1, fun e => Bool.noConfusion e⟩]) (hn _ _ _ _ h2)
    · exact h.elim
  · split at h
    · obtain ⟨h1, h2⟩ := zsvl_of rfl h
      exact r_st hI (by simp only [zst, zstore]; rw [if_pos ⟨rfl, by omega, fun _ => h1⟩]) (hn _ _ _ _ h2)
    · exact h.elim
  · split at h
    · obtain ⟨h1, h2⟩ := zsv_of (by simp [Value.category]) h
      exact r_st hI (by simp only [zst, zstore]; rw [if_pos ⟨rfl, h1, fun e => Bool.noConfusion e⟩]) (hn _ _ _ _ h2)
    · obtain ⟨h1, h2⟩ := zsv_of (by simp [Value.category]) h
      exact r_st hI (by simp only [zst, zstore]; rw [if_pos ⟨rfl, h1, fun e => Bool.noConfusion e⟩]) (hn _ _ _ _ h2)
    · exact h.elim
  · exact r_st hI rfl (hn _ _ _ _ (zsk_of h).2)
  · split at h
    · rename_i e; rw [zgl_eq] at e
      obtain ⟨h1, h2⟩ := zsv_of (by simp [Value.category]) h
      exact r_st hI (by simp only [zst, e]) (hn _ _ _ _ h2)
    · exact h.elim
  · -- ifCond
    split at h
    · have h := zbr_of (zcondB_iff _ _ _) h
      exact r_if hI rfl ⟨fun e => hj _ _ _ _ _ (h.1 e), fun e => hn _ _ _ _ (h.2 e)⟩
    · exact h.elim
  · split at h
    · have h := zbr_of (zcondB_iff _ _ _) h
      exact r_icmp hI rfl ⟨fun e => hj _ _ _ _ _ (h.1 e), fun e => hn _ _ _ _ (h.2 e)⟩
    · exact h.elim
  · exact r_goto hI rfl (hj _ _ _ _ _ h)
  · split at h
    · exact r_jp hI rfl rfl (hj _ _ _ _ _ h)
    · exact r_jp hI rfl rfl (hn _ _ _ _ h)
    · exact h.elim
  · split at h
    · exact r_jp hI rfl rfl (hn _ _ _ _ h)
    · exact r_jp hI rfl rfl (hj _ _ _ _ _ h)
    · exact h.elim
  · split at h
    · exact r_jp hI rfl rfl (zswF_of (W := fun t => Wz (d + 1) j t L _ S R mi ml QQ) (zsw2_mono (fun t q => hj _ _ _ _ _ q) (zsw2_of h)))
    · exact h.elim
  · -- getfield
    split at h
    · rename_i cl q ty c st hF
      obtain ⟨h1, h⟩ := zgd_of h
      obtain ⟨h1, h2⟩ := zand_iff.mp h1
      have h1 := zhas_iff.mp h1
      have h2 := zblt h2
      have hS := zkg_of hs (g := g) (c := c) rfl (fun e => by rw [e] at h1; exact zF_999 (f := _) (by rw [hF]; exact h1))
      split at h
      · exact r_getI hI hS (by rw [hF]; exact h1) (by rw [hF]; exact h2) (.inl (by rw [hF])) (by rw [hF]; exact hn _ _ _ _ h)
      · exact r_getI hI hS (by rw [hF]; exact h1) (by rw [hF]; exact h2) (.inr (by rw [hF])) (by rw [hF]; exact hn _ _ _ _ h)
      · exact r_getJ hI hS (by rw [hF]; exact h1) (by rw [hF]; exact h2) (by rw [hF]) (by rw [hF]; exact hn _ _ _ _ h)
      · exact r_getR hI hS (by rw [hF]; exact h1) (by rw [hF]; exact h2) (by rw [hF]) rfl (by rw [hF]; exact hn _ _ _ _ (zsp_of h))
      · exact h.elim
    · rename_i hF
      split at h
      · rename_i hb
        obtain ⟨b1, b2⟩ := zand_iff.mp hb
        obtain ⟨b2, b3⟩ := zand_iff.mp b2
        exact r_st hI (by simp only [zst, zget, hF]; rw [if_pos ⟨zble b1, zblt b2, zbeq b3⟩]) (hn _ _ _ _ h)
      · rename_i hb
        obtain ⟨b1, b2⟩ := zand_iff.mp hb
        obtain ⟨b2, b3⟩ := zand_iff.mp b2
        exact r_st hI (by simp only [zst, zget, hF]; rw [if_pos ⟨zble b1, zblt b2, zbeq b3⟩]) (hn _ _ _ _ h)
      · exact h.elim
    · exact h.elim
  · -- putfield
    split at h
    · rename_i cl q ty x c st hF
      obtain ⟨h1, h⟩ := zgd_of h
      obtain ⟨h1, h2⟩ := zand_iff.mp h1
      have h1 := zhas_iff.mp h1
      have h2 := zblt h2
      have hS := zkg_of hs (g := g) (c := c) rfl (fun e => by rw [e] at h1; exact zF_999 (f := _) (by rw [hF]; exact h1))
      split at h
      · exact r_putI hI hS (by rw [hF]; exact h1) (by rw [hF]; exact h2) (by rw [hF]) (by rw [hF]; exact hn _ _ _ _ h)
      · exact r_zput hI hS (by rw [hF]; exact h1) (by rw [hF]; exact h2) (by rw [hF]) h.1 (by rw [hF]; exact hn _ _ _ _ h.2)
      · exact h.elim
    · rename_i cl q ty x c st hF
      obtain ⟨h1, hk⟩ := zgd_of h
      obtain ⟨h2, h3⟩ := zand_iff.mp h1
      obtain ⟨h4, h5⟩ := zand_iff.mp h3
      have h6 := zhas_iff.mp h2
      have h7 := zblt h4
      have h8 := zbeq h5
      have hS := zkg_of hs (g := g) (c := c) rfl (fun e => by rw [e] at h6; exact zF_999 (f := _) (by rw [hF]; exact h6))
      clear h1 h2 h3 h4 h5
      subst h8
      exact r_st hI (by simp only [zst, zput, hS, hF]; rw [if_pos ⟨h6, h7⟩]) (hn _ _ _ _ hk)
    · exact h.elim
  · -- iaload
    split at h
    · obtain ⟨h1, h2, h⟩ := zgd_of h
      exact r_iald hI (zkg_of hs (zbeq h1) (by decide)) h2 (hn _ _ _ _ h)
    · split at h
      · rename_i hb; obtain ⟨b1, b2⟩ := zand_iff.mp hb
        exact r_tald hI ⟨zble b1, zble b2⟩ h.1 (hn _ _ _ _ h.2)
      · exact h.elim
    · exact h.elim
  · split at h
    · obtain ⟨h1, h2, h⟩ := zgd_of h
      exact r_bald hI ((zor_iff.mp h1).imp (fun e => zkg_of hs (zbeq e) (by decide)) (fun e => zkg_of hs (zbeq e) (by decide))) h2 (hn _ _ _ _ h)
    · split at h
      · rename_i hb; obtain ⟨b1, b2⟩ := zand_iff.mp hb
        exact r_bytes hI ⟨zble b1, zble b2⟩ h.1 (hn _ _ _ _ h.2)
      · exact h.elim
    · exact h.elim
  · split at h
    · obtain ⟨h1, h2, h⟩ := zgd_of h
      exact r_lald hI (zkg_of hs (zbeq h1) (by decide)) h2 (hn _ _ _ _ h)
    · exact h.elim
  · split at h
    · split at h
      · rename_i hb; obtain ⟨b1, b2⟩ := zand_iff.mp hb
        have b1 := zble b1
        have b2 := zble b2
        exact r_aald hI (hs _ _ (zk_of rfl (fun e => by rw [e] at b2; exact absurd b2 (by decide)))) (by omega) h.1 rfl (hn _ _ _ _ (zsp_of h.2))
      · exact h.elim
    · exact h.elim
  · split at h
    · rename_i c st
      obtain ⟨h1, h⟩ := zgd_of h
      obtain ⟨b1, b2⟩ := zand_iff.mp h1
      exact r_len hI (zkg_of hs (g := g) (c := c) rfl (fun e => by rw [e] at b2; exact absurd b2 (by decide))) ⟨zble b1, zble b2⟩ rfl (hn _ _ _ _ h)
    · split at h
      · rename_i hb
        exact r_tlen hI ((zor_iff.mp hb).imp (fun e => ⟨zble (zand_iff.mp e).1, zble (zand_iff.mp e).2⟩) (fun e => ⟨zble (zand_iff.mp e).1, zble (zand_iff.mp e).2⟩)) rfl (hn _ _ _ _ h)
      · exact h.elim
    · exact h.elim
  · split at h
    · obtain ⟨h1, h2, h⟩ := zgd_of h
      exact r_iast hI (zkg_of hs (zbeq h1) (by decide)) h2 (hn _ _ _ _ h)
    · exact h.elim
  · split at h
    · split at h
      · rename_i e; exact r_bast hI (hs _ _ (zk_of e (by decide))) h.1 (hn _ _ _ _ h.2)
      · rename_i e
        exact r_st hI (by simp only [zst, zast, hs _ _ (zk_of e (by decide))]; rw [if_pos ⟨rfl, h.1⟩]) (hn _ _ _ _ h.2)
      · exact h.elim
    · exact h.elim
  · split at h
    · obtain ⟨h1, h2, h⟩ := zgd_of h
      exact r_last hI (zkg_of hs (zbeq h1) (by decide)) h2 (hn _ _ _ _ h)
    · exact h.elim
  · split at h
    · exact r_idiv hI h.1 (hn _ _ _ _ h.2)
    · exact h.elim
  · split at h
    · exact r_irem hI h.1 (hn _ _ _ _ h.2)
    · exact h.elim
  · split at h
    · exact r_ldiv hI h.1 (hn _ _ _ _ h.2)
    · exact h.elim
  · split at h
    · exact r_lrem hI h.1 (hn _ _ _ _ h.2)
    · exact h.elim
  · -- copy
    split at h
    · split at h
      · rename_i hc
        have hc := zble hc
        rw [zcat_eq] at hc
        obtain ⟨h1, ⟨h3, h4, h5, h6, h7⟩, h⟩ := zgd_of h
        obtain ⟨h1, h2⟩ := zand_iff.mp h1
        have h2 := zbeq h2
        rcases zor_iff.mp h1 with e | e
        · rw [e] at h
          have e := zbeq e
          rw [e] at h2
          exact r_st hI (by simp only [zst, zcopy, zkg_of hs e (by decide), zkg_of hs h2 (by decide)]; rw [if_pos ⟨trivial, h3, h4, h5, h6, h7, hc⟩]) (hn _ _ _ _ h)
        · have e := zbeq e
          rw [e] at h2
          rw [show Nat.beq (zkg g S sh _) 100 = false from by rw [e]; rfl] at h
          exact r_st hI (by simp only [zst, zcopy, zkg_of hs e (by decide), zkg_of hs h2 (by decide)]; rw [if_pos ⟨trivial, h3, h4, h5, h6, h7, hc⟩]) (hn _ _ _ _ h)
      · exact h.elim
    · exact h.elim
  · -- ireturn
    split at h
    · split at h
      · rename_i hr; exact r_iret hI (by rw [hr]; rfl) (hQ _ _ _ h)
      · rename_i hr
        split at h
        · exact r_iret hI (by rw [hr]; exact z_nar_bool h.1) (hQ _ _ _ h.2)
        · split at h
          · rename_i hb
            exact r_iret hI (by rw [hr]; exact z_nar_bool ((zor_iff.mp hb).imp (zcondB_iff _ _ _).mp (zcondB_iff _ _ _).mp)) (hQ _ _ _ h)
          · exact h.elim
      · exact r_iret hI h.1 (hQ _ _ _ h.2)
    · exact h.elim
  · split at h
    · exact r_ret hI rfl rfl rfl (hQ _ _ _ h)
    · exact h.elim
  · split at h
    · exact r_ret hI rfl rfl rfl (hQ _ _ _ h)
    · exact h.elim
  · split at h
    · exact r_ret hI rfl rfl rfl (hQ _ _ _ h)
    · exact r_ret hI rfl rfl rfl (hQ _ _ _ h)
    · exact h.elim
  · -- static
    split at h
    rename_i n m tg hV
    obtain ⟨c1, c2, h⟩ := zcl2_of h
    split at h
    · rename_i j1 ht
      split at h
      · rename_i ln ow rk hM
        split at h
        · rename_i hz
          have hz := zble hz
          rw [zaln_eq, Nat.zero_add] at hz
          exact r_call hI rfl rfl rfl rfl (by rw [hV]) c1 rfl rfl (ztg_sh hs ht) c2 (by rw [hM]; exact hz) (Tz.mono (zcal_of h) (fun r _ _ _ _ q => by obtain ⟨a, b, c⟩ := q; subst a; subst b; rw [zapp_eq] at c; exact hn _ _ _ _ c))
        · exact h.elim
    · exact h.elim
  · split at h
    · rename_i n m tg hV
      obtain ⟨c1, c2, j1, ht, hz, h⟩ := zcl2_of h
      exact r_call hI rfl rfl rfl rfl (by rw [hV]) c1 rfl rfl ht c2 hz (Tz.mono (zcal_of h) (fun r _ _ _ _ q => by obtain ⟨a, b, c⟩ := q; subst a; subst b; rw [zapp_eq] at c; exact hn _ _ _ _ c))
    · rename_i n m tg hV
      obtain ⟨c1, c2, h⟩ := zcl2_of h
      split at h
      · rename_i j1 ht
        split at h
        · rename_i ln ow rk hM
          split at h
          · rename_i hz
            have hz := zble hz
            rw [zaln_eq, Nat.zero_add] at hz
            exact r_call hI rfl rfl rfl rfl (by rw [hV]) c1 rfl rfl (ztg_sh hs ht) c2 (by rw [hM]; exact hz) (Tz.mono (zcal_of h) (fun r _ _ _ _ q => by obtain ⟨a, b, c⟩ := q; subst a; subst b; rw [zapp_eq] at c; exact hn _ _ _ _ c))
          · exact h.elim
      · exact h.elim
  · split at h
    · rename_i n m tg hV
      obtain ⟨c1, c2, j1, ht, hz, h⟩ := zcl2_of h
      exact r_call hI rfl rfl rfl rfl (by rw [hV]) c1 rfl rfl ht c2 hz (Tz.mono (zcal_of h) (fun r _ _ _ _ q => by obtain ⟨a, b, c⟩ := q; subst a; subst b; rw [zapp_eq] at c; exact hn _ _ _ _ c))
    · rename_i n m tg hV
      obtain ⟨c1, c2, h⟩ := zcl2_of h
      split at h
      · rename_i j1 ht
        split at h
        · rename_i ln ow rk hM
          split at h
          · rename_i hz
            have hz := zble hz
            rw [zaln_eq, Nat.zero_add] at hz
            exact r_call hI rfl rfl rfl rfl (by rw [hV]) c1 rfl rfl (ztg_sh hs ht) c2 (by rw [hM]; exact hz) (Tz.mono (zcal_of h) (fun r _ _ _ _ q => by obtain ⟨a, b, c⟩ := q; subst a; subst b; rw [zapp_eq] at c; exact hn _ _ _ _ c))
          · exact h.elim
      · exact h.elim
  · -- the others
    split at h
    · rename_i hp hs1
      obtain ⟨e1, e2⟩ := zplain_of hp hs1
      subst e1; subst e2
      exact r_st hI hs1 (hn _ _ _ _ h)
    · exact h.elim
/-- the whole stretch, to the loops' heads; C is the code from i on, C0 all of it; W holds at the heads -/
def zwp (S : zS) (R : zR0) (sh : zS) (d j : Nat) (cs gs : List Nat) (Q : zQ) (W : Nat → List Value → List Value → zI → zJ → Prop) (C0 : List Instr) : Nat → Nat → List Instr → List Value → List Value → zI → zJ → Prop
  | 0, _, _, _, _, _, _ => False
  | _ + 1, _, [], _, _, _, _ => False
  | n + 1, i, I :: C, L, st, mi, ml => zw1 S R sh d j (zhas gs i) (zhas gs (i + 10000)) Q I L st mi ml
      (fun L1 st1 mi1 ml1 => match zhas cs (i + 1) with
        | true => W (i + 1) L1 st1 mi1 ml1
        | false => zwp S R sh d j cs gs Q W C0 n (i + 1) C L1 st1 mi1 ml1)
      (fun i1 L1 st1 mi1 ml1 => match zhas cs i1 with
        | true => W i1 L1 st1 mi1 ml1
        | false => zwp S R sh d j cs gs Q W C0 n i1 (zdr C0 i1) L1 st1 mi1 ml1)
theorem zwp_at {S : zS} {R : zR0} {sh : zS} (hs : zkn S sh) {d j : Nat} {cs gs : List Nat} {Q : zQ} {W : Nat → List Value → List Value → zI → zJ → Prop} {QQ : Option Value → zS → zR0 → zI → zJ → Prop} {C0 : List Instr} (hC : zC j = C0)
    (hW : ∀ i L st mi ml, W i L st mi ml → Wz (d + 1) j i L st S R mi ml QQ) (hQ : ∀ r mi ml, Q r mi ml → QQ r S R mi ml) : ∀ {n i : Nat} {C : List Instr} {L st : List Value} {mi : zI} {ml : zJ}, C0.drop i = C → zwp S R sh d j cs gs Q W C0 n i C L st mi ml → Wz (d + 1) j i L st S R mi ml QQ
  | 0, _, _, _, _, _, _, _, h => h.elim
  | _ + 1, _, [], _, _, _, _, _, h => h.elim
  | n + 1, i, I :: C, L, st, mi, ml, e, h => by
    unfold zwp at h
    have hI : (zC j)[i]? = some I := by
      rw [hC]
      have := congrArg (fun l => l[0]?) e
      simpa using this
    refine zw1_of hs hI ?_ ?_ hQ h
    · intro L1 st1 mi1 ml1 h1
      split at h1
      · exact hW _ _ _ _ _ h1
      · exact zwp_at hs hC hW hQ (by rw [← List.drop_drop, e]; rfl) h1
    · intro i1 L1 st1 mi1 ml1 h1
      split at h1
      · exact hW _ _ _ _ _ h1
      · exact zwp_at hs hC hW hQ (zdr_eq C0 i1).symm h1
theorem zkn_self {S : zS} : zkn S S := fun _ _ h => h
theorem zkn_app {S X : zS} : zkn (S ++ X) S := fun c q h => by
  have hc : c < S.length := by
    by_cases hc : c < S.length
    · exact hc
    · rw [List.getElem?_eq_none (by omega)] at h; cases h
  rw [List.getElem?_append_left hc]; exact h
theorem zwp_of {S : zS} {R : zR0} {sh : zS} {d j i n : Nat} {cs gs : List Nat} {Q : zQ} {C0 C : List Instr} {L st : List Value} {mi : zI} {ml : zJ} (hs : zkn S sh) (hC : zC j = C0) (e : zdr C0 i = C) (h : zwp S R sh d j cs gs Q (fun i L st mi ml => Wf (d + 1) j i L st S R mi ml Q) C0 n i C L st mi ml) : Wf (d + 1) j i L st S R mi ml Q :=
  zwp_at hs hC (fun _ _ _ _ _ h => h) (fun _ _ _ q => ⟨rfl, rfl, q⟩) (by rw [← zdr_eq]; exact e) h
/-- where references may change: what ends is asked with them -/
abbrev zQB : Type := Option Value → zR0 → zI → zJ → Prop
def Wb (d j i : Nat) (L st : List Value) (S : zS) (R : zR0) (mi : zI) (ml : zJ) (Q : zQB) : Prop := Wz d j i L st S R mi ml (fun r S1 R1 mi1 ml1 => S1 = S ∧ Q r R1 mi1 ml1)
def Tb (d j : Nat) (args : List Value) (S : zS) (R : zR0) (mi : zI) (ml : zJ) (Q : zQB) : Prop := Wb d j 0 (zent args (zM j).1) [] S R mi ml Q
theorem zwb_of {S : zS} {R : zR0} {sh : zS} {d j i n : Nat} {cs gs : List Nat} {Q : zQB} {C0 C : List Instr} {L st : List Value} {mi : zI} {ml : zJ} (hs : zkn S sh) (hC : zC j = C0) (e : zdr C0 i = C) (h : zwp S R sh d j cs gs (fun r mi ml => Q r R mi ml) (fun i L st mi ml => Wb (d + 1) j i L st S R mi ml Q) C0 n i C L st mi ml) : Wb (d + 1) j i L st S R mi ml Q :=
  zwp_at hs hC (fun _ _ _ _ _ h => h) (fun _ _ _ q => ⟨rfl, q⟩) (by rw [← zdr_eq]; exact e) h
