/-! A PURE MACHINE: the class's and the reference's code over numbered cells. A cell c has a shape S[c] (kind, length): kinds 0..12 objects of zcl, 100 int[], 101 long[], 102 byte[], 103 boolean[],
104.. arrays of references; mi, ml: its ints and longs; R: its references (0 null, c+1 the cell c). Values: .ref c a cell; .retAddr n: 0 nothing known, 1..3 static tables, 10+ texts, 20+ their bytes. -/
abbrev zS : Type := List (Nat × Nat)
abbrev zI : Type := Nat → Nat → Int32
abbrev zJ : Type := Nat → Nat → Int64
abbrev zR0 : Type := Nat → Nat → Nat
/-- one place of a memory -/
def zu {α : Type} (f : Nat → Nat → α) (c k : Nat) (v : α) : Nat → Nat → α := fun a b => if a = c ∧ b = k then v else f a b
def zrv (n : Nat) : Value := match n with
  | 0 => .null
  | c + 1 => .ref c
def zvr (v : Value) : Nat := match v with
  | .ref c => c + 1
  | _ => 0
def zTab (n : Nat) : List Int32 := match n with
  | 1 => [0, 0, 0, 1, 0, 2, 4, 7, 0, 8, 16, 25, 32, 42, 52, 63, 0, 64, 128, 193, 256, 322, 388, 455, 512, 584, 656, 729, 800, 874, 948, 1023]
  | 2 => [-1, 0x55555555, 0x33333333, 0x11111111, 0x0f0f0f0f, 0x05050505, 0x03030303, 0x01010101, 0x00ff00ff, 0x00550055, 0x00330033, 0x00110011, 0x000f000f, 0x00050005, 0x00030003, 0x00010001, 0x0000ffff, 0x00005555, 0x00003333, 0x00001111, 0x00000f0f, 0x00000505, 0x00000303, 0x00000101, 0x000000ff, 0x00000055, 0x00000033, 0x00000011, 0x0000000f, 0x00000005, 0x00000003, 0x00000001]
  | 3 => [-1, 0, 0, 0, 1, 2, 3]
  | 20 => [104, 111, 108, 100, 115, 32]
  | 21 => [108, 101, 97, 115, 116, 32]
  | 22 => [102, 111, 114, 103, 101, 116, 32]
  | 23 => [98, 97, 114, 32]
  | 24 => [97, 98, 110, 119, 115, 99]
  | 25 => [60, 61, 62]
  | 26 => [119, 111, 114, 116, 104, 32]
  | _ => []
/-- in bounds -/
def zin (i : Int32) (n : Nat) : Bool := decide (¬ (i < 0 ∨ n ≤ i.toNatClampNeg))
/-- what the class of a value is -/
def zcls (S : zS) (v : Value) : Option Nat := match v with
  | .ref c => (S[c]?).map (·.1)
  | .retAddr n => if 10 ≤ n ∧ n < 17 then some 97 else none
  | _ => none
/-- a place of the locals is taken: a long takes two; a long ahead of it goes -/
def zls (L : List Value) (i : Nat) (v : Value) : List Value :=
  let L1 := match i with
    | 0 => L
    | k + 1 => match L[k]? with
      | some w => if w.category = 2 then L.set k (.retAddr 0) else L
      | none => L
  if v.category = 2 then (L1.set i v).set (i + 1) (.retAddr 0) else L1.set i v
/-- a method's locals at its entry -/
def zarg : List Value → List Value
  | [] => []
  | v :: l => if v.category = 2 then v :: .retAddr 0 :: zarg l else v :: zarg l
def zent (args : List Value) (n : Nat) : List Value := zarg args ++ List.replicate (n - (zarg args).length) (.retAddr 0)
abbrev zT : Type := List Value × List Value × zS × zR0 × zI × zJ
def zbi (f : Int32 → Int32 → Int32) (L st : List Value) (S : zS) (R : zR0) (mi : zI) (ml : zJ) : Option zT := match st with
  | .int b :: .int a :: st => some (L, .int (f a b) :: st, S, R, mi, ml)
  | _ => none
/-- the same by a call -/
def zbg (f : Int32 → Int32 → Int32) (L st : List Value) (S : zS) (R : zR0) (mi : zI) (ml : zJ) : Option zT := match st with
  | .int b :: .int a :: st => if (st.map fun v => v.category).sum ≤ 8 then some (L, .int (f a b) :: st, S, R, mi, ml) else none
  | _ => none
def zbl (f : Int64 → Int64 → Int64) (L st : List Value) (S : zS) (R : zR0) (mi : zI) (ml : zJ) : Option zT := match st with
  | .long b :: .long a :: st => some (L, .long (f a b) :: st, S, R, mi, ml)
  | _ => none
def zun (f : Int32 → Value) (L st : List Value) (S : zS) (R : zR0) (mi : zI) (ml : zJ) : Option zT := match st with
  | .int a :: st => some (L, f a :: st, S, R, mi, ml)
  | _ => none
def zload (k : Nat) (ok : Value → Bool) (L st : List Value) (S : zS) (R : zR0) (mi : zI) (ml : zJ) : Option zT := match L[k]? with
  | some v => if ok v then some (L, v :: st, S, R, mi, ml) else none
  | none => none
def zisI (v : Value) : Bool := match v with | .int _ => true | _ => false
def zisL (v : Value) : Bool := match v with | .long _ => true | _ => false
def zisA (v : Value) : Bool := match v with | .ref _ => true | .null => true | .retAddr n => 1 ≤ n | _ => false
def zstore (k : Nat) (ok : Value → Bool) (L st : List Value) (S : zS) (R : zR0) (mi : zI) (ml : zJ) : Option zT := match st with
  | v :: st => if ok v ∧ k < L.length ∧ (zisL v = true → k + 1 < L.length) then some (zls L k v, st, S, R, mi, ml) else none
  | _ => none
def zget (f : Nat) (L st : List Value) (S : zS) (R : zR0) (mi : zI) (ml : zJ) : Option zT := match st with
  | .ref c :: st => match S[c]? with
    | some (ci, n) => if (zF f).1.contains ci ∧ (zF f).2.1 < n then (match (zF f).2.2 with
      | 0 => some (L, .int (mi c (zF f).2.1) :: st, S, R, mi, ml)
      | 3 => some (L, .int (mi c (zF f).2.1) :: st, S, R, mi, ml)
      | 1 => some (L, .long (ml c (zF f).2.1) :: st, S, R, mi, ml)
      | 2 => some (L, zrv (R c (zF f).2.1) :: st, S, R, mi, ml)
      | _ => none) else none
    | none => none
  | .retAddr n :: st => if 10 ≤ n ∧ n < 17 ∧ (zF f).2.2 = 5 then (match (zF f).2.1 with
      | 0 => some (L, .retAddr (n + 10) :: st, S, R, mi, ml)
      | 1 => some (L, .int 0 :: st, S, R, mi, ml)
      | _ => none) else none
  | _ => none
def zput (f : Nat) (L st : List Value) (S : zS) (R : zR0) (mi : zI) (ml : zJ) : Option zT := match st with
  | v :: .ref c :: st => match S[c]? with
    | some (ci, n) => if (zF f).1.contains ci ∧ (zF f).2.1 < n then (match (zF f).2.2, v with
      | 0, .int x => some (L, st, S, R, zu mi c (zF f).2.1 x, ml)
      | 3, .int x => if x = 0 ∨ x = 1 then some (L, st, S, R, zu mi c (zF f).2.1 x, ml) else none
      | 1, .long x => some (L, st, S, R, mi, zu ml c (zF f).2.1 x)
      | 2, .ref x => some (L, st, S, zu R c (zF f).2.1 (x + 1), mi, ml)
      | _, _ => none) else none
    | none => none
  | _ => none
def zald (ks : List Nat) (L st : List Value) (S : zS) (R : zR0) (mi : zI) (ml : zJ) : Option zT := match st with
  | .int i :: .ref c :: st => match S[c]? with
    | some (ci, n) => if ks.contains ci ∧ zin i n then (match ci with
      | 101 => some (L, .long (ml c i.toNatClampNeg) :: st, S, R, mi, ml)
      | 104 => some (L, zrv (R c i.toNatClampNeg) :: st, S, R, mi, ml)
      | 105 => some (L, zrv (R c i.toNatClampNeg) :: st, S, R, mi, ml)
      | 106 => some (L, zrv (R c i.toNatClampNeg) :: st, S, R, mi, ml)
      | 107 => some (L, zrv (R c i.toNatClampNeg) :: st, S, R, mi, ml)
      | 108 => some (L, zrv (R c i.toNatClampNeg) :: st, S, R, mi, ml)
      | _ => some (L, .int (mi c i.toNatClampNeg) :: st, S, R, mi, ml)) else none
    | none => none
  | .int i :: .retAddr n :: st => if (ks.contains 100 ∧ 1 ≤ n ∧ n ≤ 3 ∨ ks.contains 102 ∧ 20 ≤ n ∧ n ≤ 26) ∧ zin i (zTab n).length then some (L, .int ((zTab n).getD i.toNatClampNeg 0) :: st, S, R, mi, ml) else none
  | _ => none
def zast (ks : List Nat) (L st : List Value) (S : zS) (R : zR0) (mi : zI) (ml : zJ) : Option zT := match st with
  | v :: .int i :: .ref c :: st => match S[c]? with
    | some (ci, n) => if ks.contains ci ∧ zin i n then (match ci, v with
      | 100, .int x => some (L, st, S, R, zu mi c i.toNatClampNeg x, ml)
      | 101, .long x => some (L, st, S, R, mi, zu ml c i.toNatClampNeg x)
      | 102, .int x => some (L, st, S, R, zu mi c i.toNatClampNeg x.toInt8.toInt32, ml)
      | 103, .int x => some (L, st, S, R, zu mi c i.toNatClampNeg (x &&& 1), ml)
      | 104, .ref x => if (S[x]?).map (·.1) = some 7 then some (L, st, S, zu R c i.toNatClampNeg (x + 1), mi, ml) else none
      | 105, .ref x => if (S[x]?).map (·.1) = some 4 then some (L, st, S, zu R c i.toNatClampNeg (x + 1), mi, ml) else none
      | 106, .ref x => if ((S[x]?).map (·.1)).any (fun k => [0, 1, 2, 3, 5, 9, 10].contains k) then some (L, st, S, zu R c i.toNatClampNeg (x + 1), mi, ml) else none
      | _, _ => none) else none
    | none => none
  | _ => none
def zalen (L st : List Value) (S : zS) (R : zR0) (mi : zI) (ml : zJ) : Option zT := match st with
  | .ref c :: st => match S[c]? with
    | some (ci, n) => if 100 ≤ ci ∧ ci ≤ 108 then some (L, .int (Int32.ofNat n) :: st, S, R, mi, ml) else none
    | none => none
  | .retAddr n :: st => if 1 ≤ n ∧ n ≤ 3 ∨ 20 ≤ n ∧ n ≤ 26 then some (L, .int (Int32.ofNat (zTab n).length) :: st, S, R, mi, ml) else none
  | _ => none
/-- a new cell of zeros -/
def zw0 {α : Type} (f : Nat → Nat → α) (c : Nat) (v : α) : Nat → Nat → α := fun a b => if a = c then v else f a b
def znew (ci n : Nat) (L st : List Value) (S : zS) (R : zR0) (mi : zI) (ml : zJ) : Option zT :=
  some (L, .ref S.length :: st, S ++ [(ci, n)], zw0 R S.length 0, zw0 mi S.length 0, zw0 ml S.length 0)
def znewa (ci : Nat) (L st : List Value) (S : zS) (R : zR0) (mi : zI) (ml : zJ) : Option zT := match st with
  | .int n :: st => if ¬ n < 0 ∧ n.toNatClampNeg ≤ 100000 then some (L, .ref S.length :: st, S ++ [(ci, n.toNatClampNeg)], zw0 R S.length 0, zw0 mi S.length 0, zw0 ml S.length 0) else none
  | _ => none
/-- rows of rows -/
def zmna (ci : Nat) (L st : List Value) (S : zS) (R : zR0) (mi : zI) (ml : zJ) : Option zT := match st with
  | .int k :: .int n :: st => if ¬ n < 0 ∧ ¬ k < 0 ∧ n.toNatClampNeg ≤ 10 ∧ k.toNatClampNeg ≤ 2000 then
      some (L, .ref S.length :: st, S ++ (ci, n.toNatClampNeg) :: List.replicate n.toNatClampNeg (if ci = 107 then 101 else 100, k.toNatClampNeg),
        fun a b => if a = S.length then (if b < n.toNatClampNeg then S.length + 1 + b + 1 else 0) else if S.length < a then 0 else R a b,
        fun a b => if S.length ≤ a then 0 else mi a b, fun a b => if S.length ≤ a then 0 else ml a b) else none
  | _ => none
/-- System.arraycopy between rows of one kind -/
def zcp {α : Type} (f : Nat → Nat → α) (c : Nat) (g : Nat → α) (sp dp n : Nat) : Nat → Nat → α := fun a b => if a = c ∧ dp ≤ b ∧ b < dp + n then g (sp + (b - dp)) else f a b
def zcopy (L st : List Value) (S : zS) (R : zR0) (mi : zI) (ml : zJ) : Option zT := match st with
  | .int n :: .int dp :: .ref d :: .int sp :: .ref c :: st => match S[c]?, S[d]? with
    | some (ci, n0), some (di, n1) => if ci = di ∧ ¬ sp < 0 ∧ ¬ dp < 0 ∧ ¬ n < 0 ∧ sp.toNatClampNeg + n.toNatClampNeg ≤ n0 ∧ dp.toNatClampNeg + n.toNatClampNeg ≤ n1 ∧ (st.map fun v => v.category).sum ≤ 8 then (match ci with
      | 100 => some (L, st, S, R, zcp mi d (mi c) sp.toNatClampNeg dp.toNatClampNeg n.toNatClampNeg, ml)
      | 101 => some (L, st, S, R, mi, zcp ml d (ml c) sp.toNatClampNeg dp.toNatClampNeg n.toNatClampNeg)
      | _ => none) else none
    | _, _ => none
  | _ => none
/-- the instructions that only go on -/
def zst (I : Instr) (L st : List Value) (S : zS) (R : zR0) (mi : zI) (ml : zJ) : Option zT := match I with
  | .iconst n => some (L, .int (Int32.ofInt n) :: st, S, R, mi, ml)
  | .jsr n => some (L, .long (Int64.ofInt n) :: st, S, R, mi, ml)
  | .jsr_w n => some (L, .retAddr n.toNat :: st, S, R, mi, ml)
  | .aconst_null => some (L, .null :: st, S, R, mi, ml)
  | .iload k => zload k zisI L st S R mi ml
  | .lload k => zload k zisL L st S R mi ml
  | .aload k => zload k zisA L st S R mi ml
  | .istore k => zstore k zisI L st S R mi ml
  | .lstore k => zstore k zisL L st S R mi ml
  | .astore k => zstore k zisA L st S R mi ml
  | .ret k => some (L.set k (.retAddr 0), st, S, R, mi, ml)
  | .iinc k n => match L[k]? with
    | some (.int x) => some (zls L k (.int (x + Int32.ofInt n)), st, S, R, mi, ml)
    | _ => none
  | .iadd => zbi (fun a b => a + b) L st S R mi ml
  | .isub => zbi (fun a b => a - b) L st S R mi ml
  | .imul => zbi (fun a b => a * b) L st S R mi ml
  | .iand => zbi (fun a b => a &&& b) L st S R mi ml
  | .ior => zbi (fun a b => a ||| b) L st S R mi ml
  | .ixor => zbi (fun a b => a ^^^ b) L st S R mi ml
  | .ishl => zbi (fun a b => a <<< (b &&& 31)) L st S R mi ml
  | .ishr => zbi (fun a b => a >>> (b &&& 31)) L st S R mi ml
  | .iushr => zbi (fun a b => (a.toUInt32 >>> (b.toUInt32 &&& Int32.toUInt32 31)).toInt32) L st S R mi ml
  | .idiv => match st with
    | .int b :: .int a :: st => if b = 0 then none else some (L, .int (a / b) :: st, S, R, mi, ml)
    | _ => none
  | .irem => match st with
    | .int b :: .int a :: st => if b = 0 then none else some (L, .int (a % b) :: st, S, R, mi, ml)
    | _ => none
  | .dadd => zbg (fun a b => if a < b then b else a) L st S R mi ml
  | .dsub => zbg (fun a b => if b < a then b else a) L st S R mi ml
  | .ineg => zun (fun a => .int (-a)) L st S R mi ml
  | .ladd => zbl (fun a b => a + b) L st S R mi ml
  | .lmul => zbl (fun a b => a * b) L st S R mi ml
  | .lxor => zbl (fun a b => a ^^^ b) L st S R mi ml
  | .ldiv => match st with
    | .long b :: .long a :: st => if b = 0 then none else some (L, .long (a / b) :: st, S, R, mi, ml)
    | _ => none
  | .lrem => match st with
    | .long b :: .long a :: st => if b = 0 then none else some (L, .long (a % b) :: st, S, R, mi, ml)
    | _ => none
  | .lshl => match st with
    | .int b :: .long a :: st => some (L, .long (a <<< (b.toInt64 &&& 63)) :: st, S, R, mi, ml)
    | _ => none
  | .lushr => match st with
    | .int b :: .long a :: st => some (L, .long (a.toUInt64 >>> (b.toInt64.toUInt64 &&& Int64.toUInt64 63)).toInt64 :: st, S, R, mi, ml)
    | _ => none
  | .lcmp => match st with
    | .long b :: .long a :: st => some (L, .int (lg_cmp a b) :: st, S, R, mi, ml)
    | _ => none
  | .i2l => zun (fun a => .long a.toInt64) L st S R mi ml
  | .l2i => match st with
    | .long a :: st => some (L, .int a.toInt32 :: st, S, R, mi, ml)
    | _ => none
  | .i2b => zun (fun a => .int a.toInt8.toInt32) L st S R mi ml
  | .i2s => zun (fun a => .int a.toInt16.toInt32) L st S R mi ml
  | .i2c => zun (fun a => .int (a.toUInt32 % 65536).toInt32) L st S R mi ml
  | .dup => match st with
    | .int a :: st => some (L, .int a :: .int a :: st, S, R, mi, ml)
    | .ref a :: st => some (L, .ref a :: .ref a :: st, S, R, mi, ml)
    | _ => none
  | .dup2 => match st with
    | .int b :: .ref a :: st => some (L, .int b :: .ref a :: .int b :: .ref a :: st, S, R, mi, ml)
    | _ => none
  | .pop => match st with
    | .int _ :: st => some (L, st, S, R, mi, ml)
    | .ref _ :: st => some (L, st, S, R, mi, ml)
    | _ => none
  | .pop2 => match st with
    | .ref _ :: st => if (st.map fun v => v.category).sum ≤ 8 then some (L, st, S, R, mi, ml) else none
    | _ => none
  | .getfield f => zget f L st S R mi ml
  | .putfield f => zput f L st S R mi ml
  | .iaload => zald [100] L st S R mi ml
  | .laload => zald [101] L st S R mi ml
  | .baload => zald [102, 103] L st S R mi ml
  | .aaload => zald [104, 105, 106, 107, 108] L st S R mi ml
  | .iastore => zast [100] L st S R mi ml
  | .lastore => zast [101] L st S R mi ml
  | .bastore => zast [102, 103] L st S R mi ml
  | .aastore => zast [104, 105, 106] L st S R mi ml
  | .arraylength => zalen L st S R mi ml
  | .new ci => match zcl[ci]? with
    | some q => znew ci q.2.2 L st S R mi ml
    | none => none
  | .newarray .int => znewa 100 L st S R mi ml
  | .newarray .long => znewa 101 L st S R mi ml
  | .newarray .byte => znewa 102 L st S R mi ml
  | .newarray .boolean => znewa 103 L st S R mi ml
  | .anewarray ci => if [104, 105, 106].contains ci then znewa ci L st S R mi ml else none
  | .multianewarray ci _ => if [107, 108].contains ci then zmna ci L st S R mi ml else none
  | .monitorenter => zcopy L st S R mi ml
  | _ => none
/-- a switch: the first pair that fits -/
def zsw (x : Int32) (d : Int) : List (Int × Int) → Nat
  | [] => d.toNat
  | q :: l => if x = Int32.ofInt q.1 then q.2.toNat else zsw x d l
def zcond (c : ClassFile.Cond) (a b : Int32) : Prop := match c with
  | .eq => a = b
  | .ne => a ≠ b
  | .lt => a < b
  | .ge => b ≤ a
  | .gt => b < a
  | .le => a ≤ b
def zcondB (c : ClassFile.Cond) (a b : Int32) : Bool := match c with
  | .eq => decide (a = b)
  | .ne => decide (a ≠ b)
  | .lt => decide (a < b)
  | .ge => decide (b ≤ a)
  | .gt => decide (b < a)
  | .le => decide (a ≤ b)
theorem zcondB_iff (c : ClassFile.Cond) (a b : Int32) : zcondB c a b = true ↔ zcond c a b := by
  cases c <;> simp [zcondB, zcond]
/-- the jumps: where to, and the stack -/
def zjp (I : Instr) (i : Nat) (st : List Value) : Option (Nat × List Value) := match I with
  | .goto t => some (t.toNat, st)
  | .ifCond c t => match st with
    | .int a :: st => some (if zcondB c a 0 then t.toNat else i + 1, st)
    | _ => none
  | .if_icmp c t => match st with
    | .int b :: .int a :: st => some (if zcondB c a b then t.toNat else i + 1, st)
    | _ => none
  | .ifnull t => match st with
    | .null :: st => some (t.toNat, st)
    | .ref _ :: st => some (i + 1, st)
    | _ => none
  | .ifnonnull t => match st with
    | .null :: st => some (i + 1, st)
    | .ref _ :: st => some (t.toNat, st)
    | _ => none
  | .lookupswitch d ps => match st with
    | .int a :: st => some (zsw a d ps.toList, st)
    | _ => none
  | _ => none
/-- the ends -/
def zrty (k : Nat) : FieldType := match k with
  | 2 => .boolean
  | 3 => .byte
  | 4 => .char
  | _ => .int
def zrt (rk : Nat) (I : Instr) (st : List Value) : Option (Option Value) := match I with
  | .return_ => match st with
    | [] => some none
    | _ => none
  | .ireturn => match st with
    | [.int a] => if narrow (zrty rk) (.int a) = .int a then some (some (.int a)) else none
    | _ => none
  | .lreturn => match st with
    | [.long a] => some (some (.long a))
    | _ => none
  | .areturn => match st with
    | [.ref a] => some (some (.ref a))
    | [.null] => some (some .null)
    | _ => none
  | _ => none
/-- the calls: which site -/
def zsite (I : Instr) : Option Nat := match I with
  | .invokestatic v => some v
  | .invokespecial v => some v
  | .invokevirtual v => some v
  | _ => none
/-- a site's method, by the class of its receiver -/
def ztg (S : zS) (v : Nat) (args : List Value) : Option Nat := match (zV v).2.1, (zV v).2.2 with
  | 0, [q] => some q.2
  | 2, [q] => match args with
    | .ref c :: _ => match S[c]? with
      | some (ci, _) => if ci < 13 then some q.2 else none
      | none => none
    | _ => none
  | 1, l => match args with
    | a :: _ => match zcls S a with
      | some ci => l.lookup ci
      | none => none
    | [] => none
  | _, _ => none
abbrev zO : Type := Option Value × zS × zR0 × zI × zJ
def zex : Nat → Nat → Nat → Nat → List Value → List Value → zS → zR0 → zI → zJ → Option zO
  | 0, _, _, _, _, _, _, _, _, _ => none
  | f + 1, d, j, i, L, st, S, R, mi, ml => match (zC j)[i]? with
    | none => none
    | some I => match zst I L st S R mi ml with
      | some (L1, st1, S1, R1, mi1, ml1) => zex f d j (i + 1) L1 st1 S1 R1 mi1 ml1
      | none => match zjp I i st with
        | some (i1, st1) => zex f d j i1 L st1 S R mi ml
        | none => match zrt (zM j).2.2 I st with
          | some r => some (r, S, R, mi, ml)
          | none => match zsite I, d with
            | some v, d1 + 1 => if (zV v).1 ≤ st.length ∧ ((st.drop (zV v).1).map fun v => v.category).sum ≤ 8 then
                (match ztg S v (st.take (zV v).1).reverse with
                | some j1 => if (zarg (st.take (zV v).1).reverse).length ≤ (zM j1).1 then (match zex f d1 j1 0 (zent (st.take (zV v).1).reverse (zM j1).1) [] S R mi ml with
                  | some (r, S1, R1, mi1, ml1) => zex f (d1 + 1) j (i + 1) L (r.toList ++ st.drop (zV v).1) S1 R1 mi1 ml1
                  | none => none) else none
                | none => none) else none
            | _, _ => none
/-- from here the code ends so -/
def Wz (d j i : Nat) (L st : List Value) (S : zS) (R : zR0) (mi : zI) (ml : zJ) (Q : Option Value → zS → zR0 → zI → zJ → Prop) : Prop := ∃ f r S1 R1 mi1 ml1, zex f d j i L st S R mi ml = some (r, S1, R1, mi1, ml1) ∧ Q r S1 R1 mi1 ml1
/-- a call of method j -/
def Tz (d j : Nat) (args : List Value) (S : zS) (R : zR0) (mi : zI) (ml : zJ) (Q : Option Value → zS → zR0 → zI → zJ → Prop) : Prop := Wz d j 0 (zent args (zM j).1) [] S R mi ml Q
