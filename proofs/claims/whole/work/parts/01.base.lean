/-! The small machine: its instructions as tables have them. -/
/-- an instruction, the place behind it, two numbers that a table knows of it -/
abbrev EN : Type := Instr × Nat × Nat × Nat
/-- the tables: entries, numbers of locals, arrays that were there, blank fields, types of fields, answers' types, methods' classes -/
abbrev GI : Type := (Nat → Nat → Option EN) × (Nat → Nat) × (Nat → Option (Nat × (Nat → Int32))) × (Nat → List Value) × (Nat → Nat → FieldType) × (Nat → Option FieldType) × (Nat → Nat)
/-- what kind of step an instruction makes: 0 on, 1 a branch, 2 an answer, 3 a call, 4 none -/
def ikd (i : Instr) : Nat := match i with
  | .iconst _ | .bipush _ | .sipush _ | .lconst _ | .aconst_null | .ldc _ | .ldc_w _ | .ldc2_w _ => 0
  | .iload_n _ | .iload _ | .lload_n _ | .lload _ | .aload_n _ | .aload _ | .istore_n _ | .istore _ | .astore_n _ | .astore _ | .lstore_n _ | .lstore _ | .iinc _ _ => 0
  | .iadd | .isub | .imul | .iand | .idiv | .irem | .ineg | .i2l | .i2b | .l2i | .ladd | .lmul | .ldiv | .lrem | .lneg | .lcmp | .dup | .pop | .dup_x1 | .dup2 => 0
  | .goto _ | .if_acmp _ _ | .ifnull _ | .ifnonnull _ | .getfield _ | .putfield _ | .getstatic _ | .arraylength | .iaload | .baload | .aaload | .iastore | .bastore | .aastore => 0
  | .newarray _ | .anewarray _ | .new _ => 0
  | .ifCond _ _ | .if_icmp _ _ | .tableswitch _ _ _ _ => 1
  | .ireturn | .lreturn | .areturn | .return_ => 2
  | .invokespecial _ | .invokevirtual _ | .invokestatic _ => 3
  | _ => 4
abbrev YT : Type := Nat → MethodName × ByteArray
def ilen (i : Instr) : Nat := match i with
  | .bipush _ | .ldc _ | .iload _ | .lload _ | .aload _ | .istore _ | .lstore _ | .astore _ | .newarray _ => 2
  | .sipush _ | .ldc_w _ | .ldc2_w _ | .iinc _ _ | .goto _ | .ifCond _ _ | .if_icmp _ _ | .if_acmp _ _ | .ifnull _ | .ifnonnull _ | .getfield _ | .putfield _ | .getstatic _ | .anewarray _ | .new _ | .invokespecial _ | .invokevirtual _ | .invokestatic _ => 3
  | _ => 1
