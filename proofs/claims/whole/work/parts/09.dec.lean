/-! what the abstract machine's code says of the bytes: checked method by method -/
abbrev am_in (x : Int) : Prop := -2147483648 ≤ x ∧ x < 2147483648
/-- the bytes at bp hold this instruction, of this length; the next stands at nx -/
def am_d1 (cc : ByteArray) (bp nx : Nat) (ins : Jvm.ClassFile.Instr) (n : Nat) : Bool := decide (decode cc bp = .ok (ins, n)) && Nat.beq nx (bp + n)
def am_d0 (cc : ByteArray) (bp : Nat) (ins : Jvm.ClassFile.Instr) (n : Nat) : Bool := decide (decode cc bp = .ok (ins, n))
def am_off (ps : List Nat) (bp : Nat) (t : Int) : Int := (ps.getD t.toNat 0 : Int) - bp
def am_dec (cc : ByteArray) (ps : List Nat) (bp nx : Nat) (ai : am_I) : Bool := match ai with
  | (.bipush v, a, b) => decide (am_in v) && (match a with
    | 0 => am_d1 cc bp nx (.iconst v) 1
    | 1 => am_d1 cc bp nx (.bipush v) 2 && decide ((Int8.ofInt v).toInt32 = Int32.ofInt v)
    | 2 => am_d1 cc bp nx (.sipush v) 3 && decide ((Int16.ofInt v).toInt32 = Int32.ofInt v)
    | 3 => am_d1 cc bp nx (.ldc b) 2
    | 4 => am_d1 cc bp nx (.ldc_w b) 3
    | _ => am_d1 cc bp nx (.getstatic b) 3)
  | (.aload _, a, b) => (match a with
    | 0 => am_d1 cc bp nx (.ldc b) 2
    | _ => am_d1 cc bp nx (.getstatic b) 3)
  | (.iload n, kd, v) => (match kd, v with
    | 0, 0 => am_d1 cc bp nx (.iload_n (Fin.ofNat 4 n)) 1 && decide (n < 4)
    | 0, _ => am_d1 cc bp nx (.iload n) 2
    | _, 0 => am_d1 cc bp nx (.aload_n (Fin.ofNat 4 n)) 1 && decide (n < 4)
    | _, _ => am_d1 cc bp nx (.aload n) 2)
  | (.istore n, kd, v) => (match kd, v with
    | 0, 0 => am_d1 cc bp nx (.istore_n (Fin.ofNat 4 n)) 1 && decide (n < 4)
    | 0, _ => am_d1 cc bp nx (.istore n) 2
    | _, 0 => am_d1 cc bp nx (.astore_n (Fin.ofNat 4 n)) 1 && decide (n < 4)
    | _, _ => am_d1 cc bp nx (.astore n) 2)
  | (.iinc n c, _, _) => am_d1 cc bp nx (.iinc n c) 3
  | (.iadd, _, _) => am_d1 cc bp nx .iadd 1
  | (.isub, _, _) => am_d1 cc bp nx .isub 1
  | (.imul, _, _) => am_d1 cc bp nx .imul 1
  | (.idiv, _, _) => am_d1 cc bp nx .idiv 1
  | (.irem, _, _) => am_d1 cc bp nx .irem 1
  | (.ineg, _, _) => am_d1 cc bp nx .ineg 1
  | (.iand, _, _) => am_d1 cc bp nx .iand 1
  | (.ior, _, _) => am_d1 cc bp nx .ior 1
  | (.ixor, _, _) => am_d1 cc bp nx .ixor 1
  | (.ishl, _, _) => am_d1 cc bp nx .ishl 1
  | (.ishr, _, _) => am_d1 cc bp nx .ishr 1
  | (.iushr, _, _) => am_d1 cc bp nx .iushr 1
  | (.i2c, _, _) => am_d1 cc bp nx .i2c 1
  | (.dup, _, _) => am_d1 cc bp nx .dup 1
  | (.dup2, _, _) => am_d1 cc bp nx .dup2 1
  | (.pop, _, _) => am_d1 cc bp nx .pop 1
  | (.ifCond c t, _, _) => am_d1 cc bp nx (.ifCond c (am_off ps bp t)) 3
  | (.if_icmp c t, _, _) => am_d1 cc bp nx (.if_icmp c (am_off ps bp t)) 3
  | (.goto t, _, _) => am_d0 cc bp (.goto (am_off ps bp t)) 3
  | (.tableswitch d lo hi ts, len, _) => am_d0 cc bp (.tableswitch (am_off ps bp d) lo hi (ts.map (am_off ps bp))) len && decide (hi = lo + (ts.size : Int) - 1)
  | (.lookupswitch d ts, len, _) => am_d0 cc bp (.lookupswitch (am_off ps bp d) (ts.map (fun q => (q.1, am_off ps bp q.2)))) len && ((ts.toList.zip (ts.toList.drop 1)).all (fun (a, next) => a.1 < next.1))
  | (.getfield _, _, b) => am_d1 cc bp nx (.getfield b) 3
  | (.checkcast _, _, b) => am_d1 cc bp nx (.getfield b) 3
  | (.putfield _, _, b) => am_d1 cc bp nx (.putfield b) 3
  | (.iaload, _, _) => am_d1 cc bp nx .iaload 1
  | (.caload, _, _) => am_d1 cc bp nx .caload 1
  | (.baload, _, _) => am_d1 cc bp nx .baload 1
  | (.aaload, _, _) => am_d1 cc bp nx .aaload 1
  | (.iastore, _, _) => am_d1 cc bp nx .iastore 1
  | (.castore, _, _) => am_d1 cc bp nx .castore 1
  | (.arraylength, _, _) => am_d1 cc bp nx .arraylength 1
  | (.lcmp, b, _) => am_d1 cc bp nx (.invokestatic b) 3
  | (.invokevirtual _, _, b) => (am_d1 cc bp nx (.invokevirtual (b / 2)) 3 || am_d1 cc bp nx (.invokestatic (b / 2)) 3)
  | (.ireturn, _, _) => am_d0 cc bp .ireturn 1
  | (.return_, _, _) => am_d0 cc bp .return_ 1
  | _ => true
def am_decs (cc : ByteArray) (ps : List Nat) : List Nat → List am_I → Bool
  | bp :: nx :: r, ai :: c => am_dec cc ps bp nx ai && am_decs cc ps (nx :: r) c
  | [_], [] => true
  | _, _ => false
