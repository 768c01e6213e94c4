/-! The small machine: its instructions as tables have them. -/
/-- an instruction, the place behind it, two numbers that a table knows of it -/
abbrev EN : Type := Instr × Nat × Nat × Nat
/-- the tables: entries, numbers of locals, arrays that were there, blank fields, types of fields, answers' types, methods' classes -/
abbrev GI : Type := (Nat → Nat → Option EN) × (Nat → Nat) × (Nat → Option (Nat × (Nat → Int32))) × (Nat → List Value) × (Nat → Nat → FieldType) × (Nat → Option FieldType) × (Nat → Nat)
/-- what kind of step an instruction makes: 0 on, 1 a branch, 2 an answer, 3 a call, 4 none -/
def ikd (i : Instr) : Nat := match i with
  | .iconst _ | .bipush _ | .sipush _ | .lconst _ | .aconst_null | .ldc _ | .ldc_w _ | .ldc2_w _ => 0
  | .iload_n _ | .iload _ | .lload_n _ | .lload _ | .aload_n _ | .aload _ | .istore_n _ | .istore _ | .astore_n _ | .astore _ | .lstore_n _ | .lstore _ | .iinc _ _ => 0
  | .iadd | .isub | .imul | .iand | .idiv | .irem | .ineg | .i2l | .i2b | .l2i | .ladd | .lmul | .ldiv | .lrem | .lneg | .lcmp | .dup | .pop | .pop2 | .dup_x1 | .dup2 => 0
  | .goto _ | .if_acmp _ _ | .ifnull _ | .ifnonnull _ | .getfield _ | .putfield _ | .getstatic _ | .arraylength | .iaload | .baload | .aaload | .iastore | .bastore | .aastore => 0
  | .newarray _ | .anewarray _ | .new _ => 0
  | .ifCond _ _ | .if_icmp _ _ | .tableswitch _ _ _ _ => 1
  | .ireturn | .lreturn | .areturn | .return_ => 2
  | .invokespecial _ | .invokevirtual _ | .invokestatic _ => 3
  | _ => 4
abbrev YT : Type := Nat → MethodName × ByteArray
def ilen (i : Instr) : Nat := match i with
  | .bipush _ | .ldc _ | .iload _ | .lload _ | .aload _ | .istore _ | .lstore _ | .astore _ | .newarray _ => 2
  | .sipush _ | .ldc_w _ | .ldc2_w _ | .iinc _ _ | .goto _ | .ifCond _ _ | .if_icmp _ _ | .if_acmp _ _ | .ifnull _ | .ifnonnull _ | .getfield _ | .putfield _ | .getstatic _ | .anewarray _ | .new _ | .invokespecial _ | .invokevirtual _ | .invokestatic _ => 3
  | _ => 1
/-! the methods of a text's signs -/
def yPC : MethodName := ⟨"jdk/internal/util/Preconditions", "checkIndex", "(IILjava/util/function/BiFunction;)I"⟩
def ySC : MethodName := ⟨"java/lang/String", "checkIndex", "(II)V"⟩
def yLC : MethodName := ⟨"java/lang/StringLatin1", "charAt", "([BI)C"⟩
def yIL : MethodName := ⟨"java/lang/String", "isLatin1", "()Z"⟩
def yCA : MethodName := ⟨"java/lang/String", "charAt", "(I)C"⟩
def yCO : MethodName := ⟨"java/lang/String", "coder", "()B"⟩
def yLN : MethodName := ⟨"java/lang/String", "length", "()I"⟩
abbrev bCO : ByteArray := prog_16_method_152_code
abbrev bLN : ByteArray := prog_16_method_54_code
abbrev bPC : ByteArray := prog_19_method_11_code
abbrev bSC : ByteArray := prog_16_method_155_code
abbrev bLC : ByteArray := prog_17_method_2_code
abbrev bIL : ByteArray := prog_16_method_154_code
abbrev bCA : ByteArray := prog_16_method_56_code
def strL : List Cond := [.code yPC bPC 3 (some .int), .static yPC, .initialized "jdk/internal/util/Preconditions", .methodLink "java/lang/String" 1059 yPC, .fieldLink "java/lang/String" 1053 "jdk/internal/util/Preconditions" "SIOOBE_FORMATTER" "Ljava/util/function/BiFunction;",
  .code ySC bSC 2 none, .static ySC, .initialized "java/lang/String", .methodLink "java/lang/StringLatin1" 9 ySC,
  .code yLC bLC 2 (some .char), .static yLC, .initialized "java/lang/StringLatin1", .methodLink "java/lang/String" 495 yLC,
  .code yIL bIL 1 (some .boolean), .instanceMethod yIL, .selects "java/lang/String" yIL yIL, .methodLink "java/lang/String" 492 yIL,
  .fieldLink "java/lang/String" 38 "java/lang/String" "COMPACT_STRINGS" "Z", .fieldLink "java/lang/String" 15 "java/lang/String" "coder" "B", .fieldLink "java/lang/String" 9 "java/lang/String" "value" "[B",
  .code yCA bCA 2 (some .char), .instanceMethod yCA, .selects "java/lang/String" yCA yCA,
  .code yCO bCO 1 (some .byte), .instanceMethod yCO, .selects "java/lang/String" yCO yCO, .methodLink "java/lang/String" 335 yCO,
  .code yLN bLN 1 (some .int), .instanceMethod yLN, .selects "java/lang/String" yLN yLN]
