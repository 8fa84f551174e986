/-! What the kernel decides of the tables: every row decodes, resolves as it should, and its words are the tables' -/
def zwT : List Cond := lw_tbl.filter goodWord
def zHas (w : Cond) : Bool := decide (w ∈ lw_tbl)
def zAt (p : Nat) (w : Cond) : Bool := decide (lw_tbl[p]? = some w)
theorem zAt_mem {p : Nat} {w : Cond} (h : zAt p w = true) : w ∈ lw_tbl := List.mem_of_getElem? (of_decide_eq_true h)
/-- does the next row stand there -/
def znx (C : List (Nat × Instr × Nat)) (i pc : Nat) : Bool := match C[i]? with
  | some q => q.1 == pc
  | none => false
def zto (C : List (Nat × Instr × Nat)) (t : Int) (p : Int) : Bool := decide (0 ≤ t) && (match C[t.toNat]? with
  | some q => (q.1 : Int) == p
  | none => false)
def zfw (f : Nat) : Cond := if (zFI f).2.2.2.2.2.1 = "" then .fieldLink (zOwn (zFI f).1) (zFI f).2.1 (zFI f).2.2.1 (zFI f).2.2.2.1 (zFI f).2.2.2.2.1
  else .fieldLinkNest (zOwn (zFI f).1) (zFI f).2.1 (zFI f).2.2.1 (zFI f).2.2.2.1 (zFI f).2.2.2.2.1 (zFI f).2.2.2.2.2.1
def zmw (v : Nat) : Cond := if (zVI v).2.2.2.1 = "" then .methodLink (zOwn (zVI v).1) (zVI v).2.1 (zVI v).2.2.1
  else .methodLinkNest (zOwn (zVI v).1) (zVI v).2.1 (zVI v).2.2.1 (zVI v).2.2.2.1
/-- one row against its resolved instruction, in a method of the class 'own' -/
def zsame (C : List (Nat × Instr × Nat)) (i pc : Nat) (raw : Instr) (len n : Nat) (J : Instr) : Bool := decide (raw = J) && (len == n) && znx C (i + 1) (pc + n)
def zck (own : Nat) (C : List (Nat × Instr × Nat)) (i pc : Nat) (raw : Instr) (len : Nat) (I : Instr) : Bool := match I with
  | .ret _ => len == 0 && znx C (i + 1) pc
  | .iconst n => match raw with
    | .iconst m => (m == n) && (len == 1) && znx C (i + 1) (pc + 1)
    | .bipush m => ((Int8.ofInt m).toInt32 == Int32.ofInt n) && (len == 2) && znx C (i + 1) (pc + 2)
    | .sipush m => ((Int16.ofInt m).toInt32 == Int32.ofInt n) && (len == 3) && znx C (i + 1) (pc + 3)
    | .ldc k => zHas (.constant (zOwn own) k (Int32.ofInt n)) && (len == 2) && znx C (i + 1) (pc + 2)
    | .ldc_w k => zHas (.constant (zOwn own) k (Int32.ofInt n)) && (len == 3) && znx C (i + 1) (pc + 3)
    | .getstatic k => (n == 1) && (own == 22) && (k == 38) && zHas (.fieldLink "java/lang/String" 38 "java/lang/String" "COMPACT_STRINGS" "Z") && (len == 3) && znx C (i + 1) (pc + 3)
    | _ => false
  | .jsr n => match raw with
    | .lconst m => (Int64.ofNat (m : Nat) == Int64.ofInt n) && (len == 1) && znx C (i + 1) (pc + 1)
    | .ldc2_w k => zHas (.constantLong (zOwn own) k (Int64.ofInt n)) && (len == 3) && znx C (i + 1) (pc + 3)
    | _ => false
  | .jsr_w n => match raw with
    | .ldc k => (own == 6) && (len == 2) && znx C (i + 1) (pc + 2) && [(10, 51), (11, 63), (12, 68), (13, 73), (14, 96), (15, 102), (16, 82)].contains (n, k)
    | .getstatic k => (len == 3) && znx C (i + 1) (pc + 3) && [(1, 11, 295), (2, 8, 125), (3, 11, 343), (1, 8, 85), (30, 22, 1053)].contains (n, own, k)
    | _ => false
  | .iload k => zsame C i pc raw len 2 (.iload k) || (decide (k < 4) && zsame C i pc raw len 1 (.iload_n (Fin.ofNat 4 k)))
  | .lload k => zsame C i pc raw len 2 (.lload k) || (decide (k < 4) && zsame C i pc raw len 1 (.lload_n (Fin.ofNat 4 k)))
  | .aload k => zsame C i pc raw len 2 (.aload k) || (decide (k < 4) && zsame C i pc raw len 1 (.aload_n (Fin.ofNat 4 k)))
  | .istore k => zsame C i pc raw len 2 (.istore k) || (decide (k < 4) && zsame C i pc raw len 1 (.istore_n (Fin.ofNat 4 k)))
  | .lstore k => zsame C i pc raw len 2 (.lstore k) || (decide (k < 4) && zsame C i pc raw len 1 (.lstore_n (Fin.ofNat 4 k)))
  | .astore k => zsame C i pc raw len 2 (.astore k) || (decide (k < 4) && zsame C i pc raw len 1 (.astore_n (Fin.ofNat 4 k)))
  | .iinc k n => zsame C i pc raw len 3 (.iinc k n)
  | .pop => zsame C i pc raw len 1 .pop
  | .pop2 => match raw with
    | .invokespecial k => zHas (.methodLink (zOwn own) k Lib.objectInit) && (len == 3) && znx C (i + 1) (pc + 3)
    | _ => false
  | .getfield f => zsame C i pc raw len 3 (.getfield (zFI f).2.1) && ((zFI f).1 == own) && decide (f < 153)
  | .putfield f => zsame C i pc raw len 3 (.putfield (zFI f).2.1) && ((zFI f).1 == own) && decide (f < 153)
  | .invokestatic v => zsame C i pc raw len 3 (.invokestatic (zVI v).2.1) && ((zVI v).1 == own) && decide (v < 212) && [0, 1].contains (zVI v).2.2.2.2.1
  | .invokespecial v => zsame C i pc raw len 3 (.invokespecial (zVI v).2.1) && ((zVI v).1 == own) && decide (v < 212) && [2, 3, 7].contains (zVI v).2.2.2.2.1
  | .invokevirtual v => zsame C i pc raw len 3 (.invokevirtual (zVI v).2.1) && ((zVI v).1 == own) && decide (v < 212) && [4, 5, 6].contains (zVI v).2.2.2.2.1
  | .monitorenter => match raw with
    | .invokestatic k => zHas (.methodLink (zOwn own) k arraycopyName) && (len == 3) && znx C (i + 1) (pc + 3)
    | _ => false
  | .dadd => match raw with
    | .invokestatic k => zHas (.methodLink (zOwn own) k Lib.Math.max.name) && (len == 3) && znx C (i + 1) (pc + 3)
    | _ => false
  | .dsub => match raw with
    | .invokestatic k => zHas (.methodLink (zOwn own) k Lib.Math.min.name) && (len == 3) && znx C (i + 1) (pc + 3)
    | _ => false
  | .new ci => match raw with
    | .new k => decide (ci < 13) && zHas (.classLink (zOwn own) k (zOwn ci)) && (len == 3) && znx C (i + 1) (pc + 3)
    | _ => false
  | .newarray t => zsame C i pc raw len 2 (.newarray t)
  | .anewarray ci => match raw with
    | .anewarray k => (ci == 104 && zHas (.classLink (zOwn own) k (zOwn 7)) || ci == 105 && zHas (.classLink (zOwn own) k (zOwn 4)) || ci == 106 && zHas (.classLink (zOwn own) k (zOwn 5))) && (len == 3) && znx C (i + 1) (pc + 3)
    | _ => false
  | .multianewarray ci _ => match raw with
    | .multianewarray k n => (n == 2) && (ci == 107 && zHas (.classLink (zOwn own) k ("[" ++ (FieldType.array .long).toString)) || ci == 108 && zHas (.classLink (zOwn own) k ("[" ++ (FieldType.array .int).toString))) && (len == 4) && znx C (i + 1) (pc + 4)
    | _ => false
  | .goto t => match raw with
    | .goto o => (len == 3) && zto C t (pc + o)
    | _ => false
  | .ifCond c t => match raw with
    | .ifCond c1 o => decide (c1 = c) && (len == 3) && zto C t (pc + o) && znx C (i + 1) (pc + 3)
    | _ => false
  | .if_icmp c t => match raw with
    | .if_icmp c1 o => decide (c1 = c) && (len == 3) && zto C t (pc + o) && znx C (i + 1) (pc + 3)
    | _ => false
  | .ifnull t => match raw with
    | .ifnull o => (len == 3) && zto C t (pc + o) && znx C (i + 1) (pc + 3)
    | _ => false
  | .ifnonnull t => match raw with
    | .ifnonnull o => (len == 3) && zto C t (pc + o) && znx C (i + 1) (pc + 3)
    | _ => false
  | .lookupswitch t ps => match raw with
    | .tableswitch d lo hi offs => (len != 0) && zto C t (pc + d) && (hi == lo + ps.size - 1) && (offs.size == ps.size) && decide (0 < ps.size) && decide (-1000 < lo) && decide (hi < 1000) &&
        (List.range ps.size).all (fun k => match ps[k]?, offs[k]? with
          | some q, some o => (q.1 == lo + k) && zto C q.2 (pc + o)
          | _, _ => false)
    | .lookupswitch d qs => (len != 0) && zto C t (pc + d) && (qs.size == ps.size) && (qs.toList.zip (qs.toList.drop 1)).all (fun (a, next) => a.1 < next.1) &&
        (List.range ps.size).all (fun k => match ps[k]?, qs[k]? with
          | some q, some o => (q.1 == o.1) && zto C q.2 (pc + o.2) && decide (-100000 < q.1) && decide (q.1 < 100000)
          | _, _ => false)
    | _ => false
  | .ireturn => decide (raw = .ireturn) && (len == 1)
  | .lreturn => decide (raw = .lreturn) && (len == 1)
  | .areturn => decide (raw = .areturn) && (len == 1)
  | .return_ => decide (raw = .return_) && (len == 1)
  | .athrow => true
  | I => [Instr.aconst_null, .iadd, .isub, .imul, .iand, .ior, .ixor, .ishl, .ishr, .iushr, .idiv, .irem, .ineg, .ladd, .lmul, .lxor, .ldiv, .lrem, .lshl, .lushr, .lcmp, .i2l, .l2i, .i2b, .i2s, .i2c, .dup, .dup2, .iaload, .laload, .baload, .aaload, .iastore, .lastore, .bastore, .aastore, .arraylength].contains I && zsame C i pc raw len 1 I
def zfin_ (f : Nat) (ini : Bool) : Bool := (zF f).1.all (fun ci => match zcl[ci]? with
  | some (_, T, _) => !(T (zF f).2.1).2.2.2 || (ini && decide ((zFI f).2.2.2.2.2.1 = "") && decide ((T (zF f).2.1).1 = zOwn (zFI f).1))
  | none => false)
def zchk (j : Nat) : Bool := (zR j).length == (zC j).length && (List.range (zC j).length).all (fun i => match (zR j)[i]?, (zC j)[i]? with
  | some (pc, raw, len), some I => zck (zM j).2.1 (zR j) i pc raw len I && (len == 0 || decide (decode (zY j).2.1 pc = .ok (raw, len))) && (match I with
    | .putfield f => zfin_ f (decide ((zY j).1.name = "<init>"))
    | .ireturn => [1, 2, 3, 4].contains (zM j).2.2
    | .lreturn => (zM j).2.2 == 5
    | .areturn => (zM j).2.2 == 6
    | .return_ => (zM j).2.2 == 0
    | .new ci => ci != 12 && ci != 11
    | _ => true)
  | _, _ => false)
def zchm (j : Nat) : Bool := (zR j).length != 0 && znx (zR j) 0 0 && plainName (zY j).1.cls && decide ((zY j).1.cls ≠ "java/lang/invoke/MethodHandle") && decide ((zY j).1.cls ≠ "java/lang/invoke/VarHandle") && decide (zOwn (zM j).2.1 = (zY j).1.cls) &&
  zAt (zYP j).1 (.code (zY j).1 (zY j).2.1 (zM j).1 (zY j).2.2) && zAt (zYP j).2 (.initialized (zY j).1.cls) && decide ((zM j).1 ≤ 20) &&
  (match (zY j).2.2, (zM j).2.2 with
    | none, 0 => true
    | some .int, 1 => true
    | some .boolean, 2 => true
    | some .byte, 3 => true
    | some .char, 4 => true
    | some .long, 5 => true
    | some (.object _), 6 => true
    | _, _ => false)
/-- a site's words, for a receiver's class ci and the method j that it selects -/
def zsw_ (v ci j : Nat) : List Cond := match zVI v with
  | (own, idx, x, _, 0, _) => [.methodLink (zOwn own) idx x, .static x]
  | (_, _, x, _, 1, _) => [.static x]
  | (own, idx, x, _, 2, _) => [.methodLink (zOwn own) idx x, .instanceMethod x]
  | (_, _, x, _, 3, _) => [.instanceMethod x]
  | (own, idx, x, _, 4, _) => [.methodLink (zOwn own) idx x, .instanceMethod x, .selects x.cls x x]
  | (_, _, x, _, 5, _) => [.instanceMethod x, .selects x.cls x x]
  | (own, idx, x, _, 6, _) => [.methodLink (zOwn own) idx x, .sameMethod x.cls (zVO v) x.name x.desc, .selects (zOwn ci) x (zY j).1, .instanceMethod (zY j).1, .instanceMethod ⟨zVO v, x.name, x.desc⟩]
  | (own, idx, x, _, 7, _) => [.methodLink (zOwn own) idx x, .sameMethod x.cls (zVO v) x.name x.desc, .superclass (zOwn own) x.cls, .instanceMethod (zY j).1]
  | _ => []
def zall2 {α β : Type} (f : α → β → Bool) : List α → List β → Bool
  | [], [] => true
  | a :: l, b :: k => f a b && zall2 f l k
  | _, _ => false
/-- what must hold of a target (ci, j) of the site v -/
def zvt (v : Nat) (q : Nat × Nat) : Bool := match zVI v with
  | (own, _, x, host, k, _) => decide (q.2 < 258) && ((zV v).1 == ((parseMethodDescriptor (zY q.2).1.desc).map (fun d => d.parameters.length)).getD 99 + (if k == 0 || k == 1 then 0 else 1)) &&
    (match k with
      | 0 => decide ((zY q.2).1 = x) && decide (host = "") && q.1 == 99
      | 1 => decide ((zY q.2).1 = x) && decide (host ≠ "") && q.1 == 99
      | 2 => decide ((zY q.2).1 = x) && decide (host = "") && decide (x.name = "<init>") && decide ((zY q.2).2.2 = none) && q.1 == 99
      | 3 => decide ((zY q.2).1 = x) && decide (host ≠ "") && decide (x.name = "<init>") && decide ((zY q.2).2.2 = none) && q.1 == 99
      | 4 => decide ((zY q.2).1 = x) && decide (host = "") && (q.1 == 97 && decide (x.cls = "java/lang/String") || decide (q.1 < 13) && decide (x.cls = zOwn q.1))
      | 5 => decide ((zY q.2).1 = x) && decide (host ≠ "") && decide (q.1 < 13) && decide (x.cls = zOwn q.1)
      | 6 => decide (zVJ v < 258) && decide ((zY (zVJ v)).1 = ⟨zVO v, x.name, x.desc⟩) && decide (host = "") && decide (q.1 < 13) && decide ((zY q.2).1.name = x.name) && decide ((zY q.2).1.desc = x.desc) && decide (zVO v ≠ "java/lang/invoke/MethodHandle") && decide (zVO v ≠ "java/lang/invoke/VarHandle")
      | 7 => decide (host = "") && q.1 == 99 && decide ((zY q.2).1 = ⟨zVO v, x.name, x.desc⟩) && decide (x.name ≠ "<init>") && (decide (zVO v = x.cls) || decide (zVO v = "OnlyStrangers$Plan" ∧ (x.cls = "OnlyStrangers$Need" ∨ x.cls = "OnlyStrangers$Full" ∨ x.cls = "OnlyStrangers$Lot")))
      | _ => false)
def zchv (v : Nat) : Bool := decide ((zV v).1 ≤ 20) && zAt (zVI v).2.2.2.2.2.2 (zmw v) && zall2 (fun q ps => zvt v q && zall2 zAt ps (zsw_ v q.1 q.2)) (zV v).2.2 (zVP v) &&
  (match (zVI v).2.2.2.2.1, (zV v).2.1, (zV v).2.2 with
    | 0, 0, [_] => true
    | 1, 0, [_] => true
    | 2, 2, [_] => true
    | 3, 2, [_] => true
    | 7, 2, [_] => true
    | 4, 1, _ => true
    | 5, 1, _ => true
    | 6, 1, _ => true
    | _, _, [] => true
    | _, _, _ => false)
def zft (d : String) : Nat := if d = "I" then 0 else if d = "J" then 1 else if d = "Z" then 3 else 2
def zfc (f ci : Nat) : Bool := match zcl[ci]?, zFI f with
  | some (_, T, N), (_, _, ref, name, desc, _, _) => decide ((zF f).2.1 < N) && decide ((T (zF f).2.1).2.1 = name) && decide ((T (zF f).2.1).2.2.1 = desc) && (zft desc == (zF f).2.2) &&
      (decide ((T (zF f).2.1).1 = ref) || zHas (.sameField ref (T (zF f).2.1).1 name desc)) && (decide (desc = "I") || decide (desc = "J") || decide (desc = "Z") || (match parseFieldDescriptor desc with
        | some (.object _) => true
        | some (.array _) => true
        | _ => false))
  | _, _ => false
def zchf (f : Nat) : Bool := zAt (zFI f).2.2.2.2.2.2 (zfw f) && (if (zF f).2.2 = 5 then decide (zFI f = (22, 9, "java/lang/String", "value", "[B", "", (zFI f).2.2.2.2.2.2)) && (zF f).2.1 == 0 && (zF f).1 == [97] || decide (zFI f = (22, 15, "java/lang/String", "coder", "B", "", (zFI f).2.2.2.2.2.2)) && (zF f).2.1 == 1 && (zF f).1 == [97]
  else (zF f).1.all (zfc f))
