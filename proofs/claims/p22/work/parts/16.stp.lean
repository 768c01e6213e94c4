/-! What an entry of the tables has to be; a step of each kind. -/
/-- a callee: its code, its class, how many arguments -/
def CFok (Ts : List Cond) (G : GI) (YB : YT) (x y : Nat) : Prop := Cond.code (YB x).1 (YB x).2 (G.2.1 x) (G.2.2.2.2.2.1 x) ∈ Ts ∧ Cond.initialized (YB x).1.cls ∈ Ts ∧ plainName (YB x).1.cls = true ∧ ((YB x).1.cls ≠ "java/lang/invoke/MethodHandle" ∧ (YB x).1.cls ≠ "java/lang/invoke/VarHandle") ∧ (parseMethodDescriptor (YB x).1.desc).map (fun d => d.parameters.length) = some y
def EXok (Ts NW : List Cond) (cl : List vw_C) (tyL : List FieldType) (G : GI) (YB : YT) (M pc : Nat) (i : Instr) (x y : Nat) : Prop := match i with
  | .goto off | .ifnull off | .ifnonnull off | .ifCond _ off | .if_icmp _ off | .if_acmp _ off => (pc : Int) + off = (x : Int)
  | .tableswitch d lo hi offs => 0 ≤ (pc : Int) + d ∧ (∀ o ∈ offs.toList, 0 ≤ (pc : Int) + o) ∧ lo + offs.toList.length ≤ hi + 1
  | .ldc idx => (y = 0 ∧ Cond.constant (YB M).1.cls idx (Int32.ofNat x) ∈ Ts) ∨ (y = 1 ∧ x < 64 ∧ ∃ tx : String, ((YB M).1.cls, idx, tx, x) ∈ SS0)
  | .ldc_w idx => (y = 0 ∧ Cond.constant (YB M).1.cls idx (Int32.ofNat x) ∈ Ts) ∨ (y = 1 ∧ x < 64 ∧ ∃ tx : String, ((YB M).1.cls, idx, tx, x) ∈ SS0)
  | .ldc2_w idx => Cond.constantLong (YB M).1.cls idx (Int64.ofNat x) ∈ Ts
  | .getfield idx => ∃ (C : String) (T : u_T) (N : Nat), mKl cl Ts G x C T N ∧ y < N ∧ Cond.fieldLink (YB M).1.cls idx C (T y).2.1 (T y).2.2.1 ∈ Ts
  | .putfield idx => ∃ (C : String) (T : u_T) (N : Nat), mKl cl Ts G x C T N ∧ y < N ∧ Cond.fieldLink (YB M).1.cls idx C (T y).2.1 (T y).2.2.1 ∈ Ts ∧ ((T y).2.2.2 = false ∨ ((T y).2.2.2 = true ∧ (YB M).1.name = "<init>" ∧ C = (YB M).1.cls))
  | .getstatic idx => x = 1 ∧ (Cond.fieldLink (YB M).1.cls idx "HoleDesk" "PARTS" "[I" ∈ Ts ∨ Cond.fieldLinkNest (YB M).1.cls idx "HoleDesk" "PARTS" "[I" "HoleDesk" ∈ NW)
  | .baload | .bastore => x = 1 ∨ x = 2
  | .aastore => ∃ (C : String) (T : u_T) (N : Nat), tyL[x]? = some (.object C) ∧ cl[y]? = some (C, T, N)
  | .newarray a => (a = .int ∧ x = 0 ∧ Cond.arrayClass .int ∈ Ts) ∨ (a = .byte ∧ x = 1 ∧ Cond.arrayClass .byte ∈ Ts) ∨ (a = .boolean ∧ x = 2 ∧ Cond.arrayClass .boolean ∈ Ts)
  | .anewarray idx => ∃ C : String, Cond.classLink (YB M).1.cls idx C ∈ Ts ∧ Cond.arrayOver (.object C) ∈ NW ∧ tyL[x]? = some (.object C)
  | .new idx => ∃ (C : String) (T : u_T) (N : Nat), mKl cl Ts G x C T N ∧ Cond.classLink (YB M).1.cls idx C ∈ Ts
  | .invokespecial idx => (x = 0 ∧ Cond.methodLink (YB M).1.cls idx Lib.objectInit ∈ Ts ∧ Cond.instanceMethod Lib.objectInit ∈ Ts ∧ Cond.code Lib.objectInit ⟨#[0xb1]⟩ 1 none ∈ Ts) ∨
      (¬ x = 0 ∧ CFok Ts G YB x y ∧ (Cond.methodLink (YB M).1.cls idx (YB x).1 ∈ Ts ∨ ∃ host : String, Cond.methodLinkNest (YB M).1.cls idx (YB x).1 host ∈ NW) ∧ Cond.instanceMethod (YB x).1 ∈ Ts ∧ (YB x).1.name = "<init>" ∧ G.2.2.2.2.2.1 x = none)
  | .invokestatic idx => (x = 9000 ∧ Cond.methodLink (YB M).1.cls idx Lib.Math.min.name ∈ Ts ∧ Cond.static Lib.Math.min.name ∈ Ts ∧ Cond.initialized "java/lang/Math" ∈ Ts ∧ Cond.code Lib.Math.min.name Lib.Math.min.code 2 (some .int) ∈ Ts) ∨
      (¬ x = 9000 ∧ CFok Ts G YB x y ∧ (Cond.methodLink (YB M).1.cls idx (YB x).1 ∈ Ts ∨ ∃ host : String, Cond.methodLinkNest (YB M).1.cls idx (YB x).1 host ∈ NW) ∧ Cond.static (YB x).1 ∈ Ts)
  | .invokevirtual idx => (x = 9001 ∧ Cond.methodLink (YB M).1.cls idx yCA ∈ Ts ∧ ∀ w ∈ strL, w ∈ Ts) ∨ (x = 9002 ∧ Cond.methodLink (YB M).1.cls idx yLN ∈ Ts ∧ ∀ w ∈ strL, w ∈ Ts) ∨ (¬ x = 9001 ∧ ¬ x = 9002 ∧ CFok Ts G YB x y ∧ Cond.methodLink (YB M).1.cls idx (YB x).1 ∈ Ts ∧ Cond.instanceMethod (YB x).1 ∈ Ts ∧ Cond.selects (YB x).1.cls (YB x).1 (YB x).1 ∈ Ts ∧ ∃ (T : u_T) (N : Nat), cl[G.2.2.2.2.2.2 x]? = some ((YB x).1.cls, T, N))
  | _ => True
def EOK (Ts NW : List Cond) (cl : List vw_C) (tyL : List FieldType) (G : GI) (YB : YT) (M pc : Nat) (i : Instr) (nx x y : Nat) : Prop := (match i with
  | .tableswitch _ _ _ _ => ∃ len, decode (YB M).2 pc = .ok (i, len)
  | _ => decode (YB M).2 pc = .ok (i, ilen i) ∧ nx = pc + ilen i) ∧ EXok Ts NW cl tyL G YB M pc i x y
/-- what holds of the machine at a method's start, and goes on holding -/
def mFx (D : va_G) (cl : List vw_C) (dA : Nat → ClassId) (pre : Nat → Nat) (base : Nat) (ρ : Nat → Int32) (tyL : List FieldType) (NW : List Cond) (G : GI) (U : State) : Prop :=
  va_K D cl (mty dA tyL) U ∧ base ≤ U.heap.size ∧ (∀ (a n : Nat) (f : Nat → Int32), G.2.2.1 a = some (n, f) → a < 8 → va_T .int (pre a) n (fun j => .int (if a = 0 then ρ j else f j)) (fun q => base ≤ q) U U.heap) ∧ (∀ w ∈ NW, va_Nw w U) ∧ va_Z "HoleDesk" "PARTS" "[I" (.ref (pre 1)) (fun q => base ≤ q) U U.heap ∧ zqS base U ∧ csF base U ∧ (∀ q ∈ SS0, vk_R q.1 q.2.1 q.2.2.1 (pre q.2.2.2) U) ∧
  (∀ (a n : Nat) (f : Nat → Int32), G.2.2.1 a = some (n, f) → 8 ≤ a → a < 8 + NS0 → txF base (pre a) n f U ∧ n < 2 ^ 31 ∧ ∀ j, j < n → f j &&& 255 = f j)
section SO
variable {p : Program} {l : Launch} {e : Env} {R : Room} {s : State} {m : MethodId} {args : Array Value} {below : List Frame} {meth : Method} {c : Code} {Q : State → Prop}
variable {D : va_G} {cl : List vw_C} {dA : Nat → ClassId} {pre : Nat → Nat} {base : Nat} {ρ : Nat → Int32} {tyL : List FieldType} {Ts NW : List Cond} {G : GI} {YB : YT} {iv : List (Int × Int)}
variable {M pc nx x y : Nat} {i : Instr} {ls : ML} {st : List Value} {h : MH} {cells slots : Nat} {z : Nat × ML × List Value × MH × Nat × Nat} {alts : List (CD × Nat)} {cd : CD} {ls' : ML} {st' : List Value} {pc' : Nat}
theorem stp_on (X : mCx p s m args c D cl dA pre base ρ tyL Ts G (YB M).2 (YB M).1.cls (G.2.1 M)) (hI : ivP ρ iv) (hF : mFx D cl dA pre base ρ tyL NW G s) (hTL : mTL tyL) (hname : (YB M).1.name = "<init>" → meth.name = "<init>") (hE : EOK Ts NW cl tyL G YB M pc i nx x y) (hk : ikd i = 0) (hc : cells + z.2.2.2.2.1 ≤ R.cells) (hn : slots + z.2.2.2.2.2 ≤ R.slots) (hz : stepI iv G M pc i nx x y ls st h = some (.inl z)) (kk : mGo p l e R s m args below meth c Q D cl dA pre base ρ (G.2.1 M) z.1 z.2.1 z.2.2.1 z.2.2.2.1 (cells + z.2.2.2.2.1) (slots + z.2.2.2.2.2)) : mGo p l e R s m args below meth c Q D cl dA pre base ρ (G.2.1 M) pc ls st h cells slots := by
  cases i with
  | iconst a => exact so_iconst X hE.1.1 hE.1.2 hz kk
  | bipush a => exact so_bipush X hE.1.1 hE.1.2 hz kk
  | sipush a => exact so_sipush X hE.1.1 hE.1.2 hz kk
  | lconst a => exact so_lconst X hE.1.1 hE.1.2 hz kk
  | aconst_null => exact so_null X hE.1.1 hE.1.2 hz kk
  | iload_n a => exact so_iload_n X hE.1.1 hE.1.2 hz kk
  | iload a => exact so_iload X hE.1.1 hE.1.2 hz kk
  | lload_n a => exact so_lload_n X hE.1.1 hE.1.2 hz kk
  | lload a => exact so_lload X hE.1.1 hE.1.2 hz kk
  | aload_n a => exact so_aload_n X hE.1.1 hE.1.2 hz kk
  | aload a => exact so_aload X hE.1.1 hE.1.2 hz kk
  | iadd => exact so_iadd X hE.1.1 hE.1.2 hz kk
  | isub => exact so_isub X hE.1.1 hE.1.2 hz kk
  | imul => exact so_imul X hE.1.1 hE.1.2 hz kk
  | idiv => exact so_idiv X hE.1.1 hE.1.2 hz kk
  | irem => exact so_irem X hE.1.1 hE.1.2 hz kk
  | ineg => exact so_ineg X hE.1.1 hE.1.2 hz kk
  | i2l => exact so_i2l X hE.1.1 hE.1.2 hz kk
  | i2b => exact so_i2b X hE.1.1 hE.1.2 hz kk
  | l2i => exact so_l2i X hE.1.1 hE.1.2 hz kk
  | ladd => exact so_ladd X hE.1.1 hE.1.2 hz kk
  | lmul => exact so_lmul X hE.1.1 hE.1.2 hz kk
  | ldiv => exact so_ldiv X hE.1.1 hE.1.2 hz kk
  | lrem => exact so_lrem X hE.1.1 hE.1.2 hz kk
  | lneg => exact so_lneg X hE.1.1 hE.1.2 hz kk
  | lcmp => exact so_lcmp X hE.1.1 hE.1.2 hz kk
  | dup => exact so_dup X hE.1.1 hE.1.2 hz kk
  | pop => exact so_pop X hE.1.1 hE.1.2 hz kk
  | pop2 => exact so_pop2 X hE.1.1 hE.1.2 hz kk
  | dup_x1 => exact so_dup_x1 X hE.1.1 hE.1.2 hz kk
  | dup2 => exact so_dup2 X hE.1.1 hE.1.2 hz kk
  | istore_n a => exact so_istore_n X hE.1.1 hE.1.2 rfl hz kk
  | istore a => exact so_istore X hE.1.1 hE.1.2 rfl hz kk
  | astore_n a => exact so_astore_n X hE.1.1 hE.1.2 rfl hz kk
  | astore a => exact so_astore X hE.1.1 hE.1.2 rfl hz kk
  | lstore_n a => exact so_lstore_n X hE.1.1 hE.1.2 rfl hz kk
  | lstore a => exact so_lstore X hE.1.1 hE.1.2 rfl hz kk
  | iinc a b => exact so_iinc X hE.1.1 hE.1.2 hI rfl hz kk
  | iand => exact so_iand X hE.1.1 hE.1.2 hI hz kk
  | goto a => exact so_goto X hE.1.1 hE.1.2 hE.2 hz kk
  | ifnull a => exact so_ifnull X hE.1.1 hE.1.2 hE.2 hz kk
  | ifnonnull a => exact so_ifnonnull X hE.1.1 hE.1.2 hE.2 hz kk
  | if_acmp cc b =>
    cases cc
    · exact so_acmp_eq X hE.1.1 hE.1.2 hE.2 hz kk
    · exact so_acmp_ne X hE.1.1 hE.1.2 hE.2 hz kk
  | ldc a =>
    rcases hE.2 with ⟨h1, h2⟩ | ⟨h1, h2, tx, h3⟩
    · exact so_ldc X hE.1.1 hE.1.2 h1 h2 hz kk
    · have h4 := hF.2.2.2.2.2.2.2.1 _ h3
      exact so_ldcS X hE.1.1 hE.1.2 h1 h2 h4 hz kk
  | ldc_w a =>
    rcases hE.2 with ⟨h1, h2⟩ | ⟨h1, h2, tx, h3⟩
    · exact so_ldc_w X hE.1.1 hE.1.2 h1 h2 hz kk
    · have h4 := hF.2.2.2.2.2.2.2.1 _ h3
      exact so_ldc_wS X hE.1.1 hE.1.2 h1 h2 h4 hz kk
  | ldc2_w a => exact so_ldc2_w X hE.1.1 hE.1.2 hE.2 hz kk
  | getfield a =>
    obtain ⟨C, T, N, h1, h2, h3⟩ := hE.2
    exact so_getfield X hE.1.1 hE.1.2 h1 h2 h3 hz kk
  | putfield a =>
    obtain ⟨C, T, N, h1, h2, h3, h4⟩ := hE.2
    exact so_putfield X hE.1.1 hE.1.2 h1 h2 h3 (h4.imp id fun q => ⟨q.1, hname q.2.1, q.2.2⟩) hz kk
  | getstatic a =>
    obtain ⟨h1, h2 | h2⟩ := hE.2
    · subst h1
      exact so_gets (host := "") X hE.1.1 hE.1.2 h2 (by decide) hF.2.2.2.2.1 hz kk
    · subst h1
      exact so_getsN X hE.1.1 hE.1.2 (hF.2.2.2.1 _ h2) (by decide) hF.2.2.2.2.1 hz kk
  | arraylength => exact so_arraylength X hE.1.1 hE.1.2 hTL hz kk
  | iaload => exact so_iaload X hE.1.1 hE.1.2 hI hTL.1 hz kk
  | baload =>
    rcases hE.2 with h1 | h1
    · subst h1
      exact so_bald X hE.1.1 hE.1.2 (by decide) hTL.2.1 hz kk
    · subst h1
      exact so_zald X hE.1.1 hE.1.2 (by decide) hTL.2.2.1 hz kk
  | aaload => exact so_aaload X hE.1.1 hE.1.2 hTL hz kk
  | iastore => exact so_iastore X hE.1.1 hE.1.2 hTL hz kk
  | bastore =>
    rcases hE.2 with h1 | h1
    · exact so_bast X hE.1.1 hE.1.2 hTL h1 hz kk
    · exact so_zast X hE.1.1 hE.1.2 hTL h1 hz kk
  | aastore =>
    obtain ⟨C, T, N, h1, h2⟩ := hE.2
    exact so_aastore X hE.1.1 hE.1.2 h1 h2 hz kk
  | newarray a =>
    rcases hE.2 with ⟨h1, h2, h3⟩ | ⟨h1, h2, h3⟩ | ⟨h1, h2, h3⟩
    · subst h1; subst h2
      exact so_newI X hE.1.1 hE.1.2 h3 hTL.1 hc hn hz kk
    · subst h1; subst h2
      exact so_newB X hE.1.1 hE.1.2 h3 hTL.2.1 hc hn hz kk
    · subst h1; subst h2
      exact so_newZ X hE.1.1 hE.1.2 h3 hTL.2.2.1 hc hn hz kk
  | anewarray a =>
    obtain ⟨C, h1, h2, h3⟩ := hE.2
    exact so_anewarray X hE.1.1 hE.1.2 h1 (hF.2.2.2.1 _ h2) h3 hc hn hz kk
  | new a =>
    obtain ⟨C, T, N, h1, h2⟩ := hE.2
    exact so_new X hE.1.1 hE.1.2 h1 h2 hc hn hz kk
  | _ => first | exact absurd (show (1 : Nat) = 0 from hk) (by decide) | exact absurd (show (2 : Nat) = 0 from hk) (by decide) | exact absurd (show (3 : Nat) = 0 from hk) (by decide) | exact absurd (show (4 : Nat) = 0 from hk) (by decide)
theorem stp_br (X : mCx p s m args c D cl dA pre base ρ tyL Ts G (YB M).2 (YB M).1.cls (G.2.1 M)) (hE : EOK Ts NW cl tyL G YB M pc i nx x y) (hk : ikd i = 1) (hz : stepI iv G M pc i nx x y ls st h = some (.inr (.inr (.inr (alts, ls', st'))))) (hq : (cd, pc') ∈ alts) (hcd : cdP ρ cd) (kk : mGo p l e R s m args below meth c Q D cl dA pre base ρ (G.2.1 M) pc' ls' st' h cells slots) : mGo p l e R s m args below meth c Q D cl dA pre base ρ (G.2.1 M) pc ls st h cells slots := by
  cases i with
  | ifCond k off =>
    cases k with
    | eq => exact so_if_eq X hE.1.1 hE.1.2 hE.2 hz hq hcd kk
    | ne => exact so_if_ne X hE.1.1 hE.1.2 hE.2 hz hq hcd kk
    | lt => exact so_if_lt X hE.1.1 hE.1.2 hE.2 hz hq hcd kk
    | ge => exact so_if_ge X hE.1.1 hE.1.2 hE.2 hz hq hcd kk
    | gt => exact so_if_gt X hE.1.1 hE.1.2 hE.2 hz hq hcd kk
    | le => exact so_if_le X hE.1.1 hE.1.2 hE.2 hz hq hcd kk
  | if_icmp k off =>
    cases k with
    | eq => exact so_icmp_eq X hE.1.1 hE.1.2 hE.2 hz hq hcd kk
    | ne => exact so_icmp_ne X hE.1.1 hE.1.2 hE.2 hz hq hcd kk
    | lt => exact so_icmp_lt X hE.1.1 hE.1.2 hE.2 hz hq hcd kk
    | ge => exact so_icmp_ge X hE.1.1 hE.1.2 hE.2 hz hq hcd kk
    | gt => exact so_icmp_gt X hE.1.1 hE.1.2 hE.2 hz hq hcd kk
    | le => exact so_icmp_le X hE.1.1 hE.1.2 hE.2 hz hq hcd kk
  | tableswitch d lo hi offs =>
    obtain ⟨len, hd⟩ := hE.1
    exact so_tsw X hd hE.2.1 hE.2.2.1 hE.2.2.2 hz hq hcd kk
  | _ => first | exact absurd (show (0 : Nat) = 1 from hk) (by decide) | exact absurd (show (2 : Nat) = 1 from hk) (by decide) | exact absurd (show (3 : Nat) = 1 from hk) (by decide) | exact absurd (show (4 : Nat) = 1 from hk) (by decide)
theorem stp_rt {v : Option Value} (X : mCx p s m args c D cl dA pre base ρ tyL Ts G (YB M).2 (YB M).1.cls (G.2.1 M)) (hlocks : meth.locks = false) (hret : meth.sig.returnType = G.2.2.2.2.2.1 M) (hE : EOK Ts NW cl tyL G YB M pc i nx x y) (hk : ikd i = 2) (hz : stepI iv G M pc i nx x y ls st h = some (.inr (.inr (.inl v)))) : mGo p l e R s m args below meth c (MQ below (mQc D cl dA pre base ρ v h cells) args s cells slots (fun q => base ≤ q)) D cl dA pre base ρ (G.2.1 M) pc ls st h cells slots := by
  cases i with
  | ireturn => exact so_ireturn X hE.1.1 hlocks hret hz
  | lreturn => exact so_lreturn X hE.1.1 hlocks hret hz
  | areturn => exact so_areturn X hE.1.1 hlocks hret hz
  | return_ => exact so_return X hE.1.1 hlocks hret hz
  | _ => first | exact absurd (show (0 : Nat) = 2 from hk) (by decide) | exact absurd (show (1 : Nat) = 2 from hk) (by decide) | exact absurd (show (3 : Nat) = 2 from hk) (by decide) | exact absurd (show (4 : Nat) = 2 from hk) (by decide)
end SO
