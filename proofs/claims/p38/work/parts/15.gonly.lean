section
/-! Which kind of step an instruction makes. -/
theorem okk_only {nx : Nat} {ls : ML} {st : List Value} {h : MH} {z : ST} (e : okk nx ls st h = some z) : ∃ q, z = .inl q := by
  unfold okk at e
  cases e
  exact ⟨_, rfl⟩
section SO
variable {iv : List (Int × Int)} {G : GI} {M pc nx x y : Nat} {i : Instr} {ls : ML} {st : List Value} {h : MH} {z : ST}
theorem on_only (hk : ikd i = 0) (hz : stepI iv G M pc i nx x y ls st h = some z) : ∃ q, z = .inl q := by
  cases i <;> first
    | (exact absurd (show (1 : Nat) = 0 from hk) (by decide)) | (exact absurd (show (2 : Nat) = 0 from hk) (by decide)) | (exact absurd (show (3 : Nat) = 0 from hk) (by decide)) | (exact absurd (show (4 : Nat) = 0 from hk) (by decide))
    | (exact okk_only hz)
    | (cases hz; exact ⟨_, rfl⟩)
    | (simp only [stepI, stload, ststore1, ststore2, s2i, s2l, s1i, s1l, s1r, s1n, s1] at hz
       repeat' split at hz
       all_goals first | (cases hz; done) | (exact okk_only hz) | (cases hz; exact ⟨_, rfl⟩))
theorem br_only (hk : ikd i = 1) (hz : stepI iv G M pc i nx x y ls st h = some z) : ∃ alts ls' st', z = .inr (.inr (.inr (alts, ls', st'))) := by
  cases i <;> first
    | (exact absurd (show (0 : Nat) = 1 from hk) (by decide)) | (exact absurd (show (2 : Nat) = 1 from hk) (by decide)) | (exact absurd (show (3 : Nat) = 1 from hk) (by decide)) | (exact absurd (show (4 : Nat) = 1 from hk) (by decide))
    | (simp only [stepI, brr, s2i, s1i, s1n, s1] at hz
       repeat' split at hz
       all_goals first | (cases hz; done) | (cases hz; exact ⟨_, _, _, rfl⟩))
theorem rt_only (hk : ikd i = 2) (hz : stepI iv G M pc i nx x y ls st h = some z) : ∃ v, z = .inr (.inr (.inl v)) := by
  cases i <;> first
    | (exact absurd (show (0 : Nat) = 2 from hk) (by decide)) | (exact absurd (show (1 : Nat) = 2 from hk) (by decide)) | (exact absurd (show (3 : Nat) = 2 from hk) (by decide)) | (exact absurd (show (4 : Nat) = 2 from hk) (by decide))
    | (simp only [stepI] at hz
       repeat' split at hz
       all_goals first | (cases hz; done) | (cases hz; exact ⟨_, rfl⟩))
theorem no_only (hk : ikd i = 4) (hz : stepI iv G M pc i nx x y ls st h = some z) : False := by
  cases i <;> first
    | (exact absurd (show (0 : Nat) = 4 from hk) (by decide)) | (exact absurd (show (1 : Nat) = 4 from hk) (by decide)) | (exact absurd (show (2 : Nat) = 4 from hk) (by decide)) | (exact absurd (show (3 : Nat) = 4 from hk) (by decide))
    | (cases hz; done)
end SO
end
section
/-! A text that was there. -/
def zqS (base : Nat) (U : State) : Prop := va_Zq "jdk/internal/util/Preconditions" "SIOOBE_FORMATTER" "Ljava/util/function/BiFunction;" (fun q => base ≤ q) U U.heap
def txF (base q n : Nat) (f : Nat → Int32) (U : State) : Prop := ∃ qv : Nat, va_O "java/lang/String" q (fun a => base ≤ a) U U.heap ∧ va_OF "java/lang/String" "coder" "B" (.int 0) q (fun a => base ≤ a) U U.heap ∧ va_OF "java/lang/String" "value" "[B" (.ref qv) q (fun a => base ≤ a) U U.heap ∧ va_T .byte qv n (fun j => .int (f j)) (fun a => base ≤ a) U U.heap
def csF (base : Nat) (U : State) : Prop := va_Z "java/lang/String" "COMPACT_STRINGS" "Z" (.int 1) (fun a => base ≤ a) U U.heap
theorem txF_on {base q n : Nat} {f : Nat → Int32} {s U : State} (h : txF base q n f s) (hvm : s.vm.Alike U.vm) (hq : ∀ a : Nat, a < s.heap.size → ¬ base ≤ a → U.heap[a]? = s.heap[a]?) : txF base q n f U := by
  obtain ⟨qv, h1, h2, h3, h4⟩ := h
  exact ⟨qv, va_O.moved hvm (h1.kept hq), va_OF.moved hvm (h2.kept hq), va_OF.moved hvm (h3.kept hq), (h4.kept hq).moved hvm⟩
theorem zqS_on {base : Nat} {s U : State} (h : zqS base s) (hvm : s.vm.Alike U.vm) (hq : ∀ a : Nat, a < s.heap.size → ¬ base ≤ a → U.heap[a]? = s.heap[a]?) : zqS base U := va_Zq.moved hvm (h.kept hq)
theorem csF_on {base : Nat} {s U : State} (h : csF base s) (hvm : s.vm.Alike U.vm) (hq : ∀ a : Nat, a < s.heap.size → ¬ base ≤ a → U.heap[a]? = s.heap[a]?) : csF base U := (h.kept hq).moved hvm
end
section
/-! What an entry of the tables has to be; a step of each kind. -/
/-- a callee: its code, its class, how many arguments -/
def CFok (Ts : List Cond) (G : GI) (YB : YT) (x y : Nat) : Prop := Cond.code (YB x).1 (YB x).2 (G.2.1 x) (G.2.2.2.2.2.1 x) ∈ Ts ∧ Cond.initialized (YB x).1.cls ∈ Ts ∧ plainName (YB x).1.cls = true ∧ ((YB x).1.cls ≠ "java/lang/invoke/MethodHandle" ∧ (YB x).1.cls ≠ "java/lang/invoke/VarHandle") ∧ (parseMethodDescriptor (YB x).1.desc).map (fun d => d.parameters.length) = some y
def EXok (Ts NW : List Cond) (cl : List vw_C) (tyL : List FieldType) (G : GI) (YB : YT) (M pc : Nat) (i : Instr) (x y : Nat) : Prop := match i with
  | .goto off | .ifnull off | .ifnonnull off | .ifCond _ off | .if_icmp _ off | .if_acmp _ off => (pc : Int) + off = (x : Int)
  | .tableswitch d lo hi offs => 0 ≤ (pc : Int) + d ∧ (∀ o ∈ offs.toList, 0 ≤ (pc : Int) + o) ∧ lo + offs.toList.length ≤ hi + 1
  | .ldc idx => (y = 0 ∧ Cond.constant (YB M).1.cls idx (Int32.ofNat x) ∈ Ts) ∨ (y = 1 ∧ x < 64 ∧ ∃ tx : String, ((YB M).1.cls, idx, tx, x) ∈ SS0)
  | .ldc_w idx => (y = 0 ∧ Cond.constant (YB M).1.cls idx (Int32.ofNat x) ∈ Ts) ∨ (y = 1 ∧ x < 64 ∧ ∃ tx : String, ((YB M).1.cls, idx, tx, x) ∈ SS0)
  | .ldc2_w idx => Cond.constantLong (YB M).1.cls idx (Int64.ofNat x) ∈ Ts
  | .getfield idx => ∃ (C : String) (T : u_T) (N : Nat), mKl cl Ts G x C T N ∧ y < N ∧ Cond.fieldLink (YB M).1.cls idx C (T y).2.1 (T y).2.2.1 ∈ Ts
  | .putfield idx => ∃ (C : String) (T : u_T) (N : Nat), mKl cl Ts G x C T N ∧ y < N ∧ Cond.fieldLink (YB M).1.cls idx C (T y).2.1 (T y).2.2.1 ∈ Ts ∧ ((T y).2.2.2 = false ∨ ((T y).2.2.2 = true ∧ (YB M).1.name = "<init>" ∧ C = (YB M).1.cls))
  | .getstatic idx => x = 1 ∧ (Cond.fieldLink (YB M).1.cls idx "HoleDesk" "PARTS" "[I" ∈ Ts ∨ Cond.fieldLinkNest (YB M).1.cls idx "HoleDesk" "PARTS" "[I" "HoleDesk" ∈ NW)
  | .baload | .bastore => x = 1 ∨ x = 2
  | .aastore => ∃ (C : String) (T : u_T) (N : Nat), tyL[x]? = some (.object C) ∧ cl[y]? = some (C, T, N)
  | .newarray a => (a = .int ∧ x = 0 ∧ Cond.arrayClass .int ∈ Ts) ∨ (a = .byte ∧ x = 1 ∧ Cond.arrayClass .byte ∈ Ts) ∨ (a = .boolean ∧ x = 2 ∧ Cond.arrayClass .boolean ∈ Ts)
  | .anewarray idx => ∃ C : String, Cond.classLink (YB M).1.cls idx C ∈ Ts ∧ Cond.arrayOver (.object C) ∈ NW ∧ tyL[x]? = some (.object C)
  | .new idx => ∃ (C : String) (T : u_T) (N : Nat), mKl cl Ts G x C T N ∧ Cond.classLink (YB M).1.cls idx C ∈ Ts
  | .invokespecial idx => (x = 0 ∧ Cond.methodLink (YB M).1.cls idx Lib.objectInit ∈ Ts ∧ Cond.instanceMethod Lib.objectInit ∈ Ts ∧ Cond.code Lib.objectInit ⟨#[0xb1]⟩ 1 none ∈ Ts) ∨
      (¬ x = 0 ∧ CFok Ts G YB x y ∧ (Cond.methodLink (YB M).1.cls idx (YB x).1 ∈ Ts ∨ ∃ host : String, Cond.methodLinkNest (YB M).1.cls idx (YB x).1 host ∈ NW) ∧ Cond.instanceMethod (YB x).1 ∈ Ts ∧ (YB x).1.name = "<init>" ∧ G.2.2.2.2.2.1 x = none)
  | .invokestatic idx => (x = 9000 ∧ Cond.methodLink (YB M).1.cls idx Lib.Math.min.name ∈ Ts ∧ Cond.static Lib.Math.min.name ∈ Ts ∧ Cond.initialized "java/lang/Math" ∈ Ts ∧ Cond.code Lib.Math.min.name Lib.Math.min.code 2 (some .int) ∈ Ts) ∨
      (¬ x = 9000 ∧ CFok Ts G YB x y ∧ (Cond.methodLink (YB M).1.cls idx (YB x).1 ∈ Ts ∨ ∃ host : String, Cond.methodLinkNest (YB M).1.cls idx (YB x).1 host ∈ NW) ∧ Cond.static (YB x).1 ∈ Ts)
  | .invokevirtual idx => (x = 9001 ∧ Cond.methodLink (YB M).1.cls idx yCA ∈ Ts ∧ ∀ w ∈ strL, w ∈ Ts) ∨ (x = 9002 ∧ Cond.methodLink (YB M).1.cls idx yLN ∈ Ts ∧ ∀ w ∈ strL, w ∈ Ts) ∨ (¬ x = 9001 ∧ ¬ x = 9002 ∧ CFok Ts G YB x y ∧ Cond.methodLink (YB M).1.cls idx (YB x).1 ∈ Ts ∧ Cond.instanceMethod (YB x).1 ∈ Ts ∧ Cond.selects (YB x).1.cls (YB x).1 (YB x).1 ∈ Ts ∧ ∃ (T : u_T) (N : Nat), cl[G.2.2.2.2.2.2 x]? = some ((YB x).1.cls, T, N))
  | _ => True
def EOK (Ts NW : List Cond) (cl : List vw_C) (tyL : List FieldType) (G : GI) (YB : YT) (M pc : Nat) (i : Instr) (nx x y : Nat) : Prop := (match i with
  | .tableswitch _ _ _ _ => ∃ len, decode (YB M).2 pc = .ok (i, len)
  | _ => decode (YB M).2 pc = .ok (i, ilen i) ∧ nx = pc + ilen i) ∧ EXok Ts NW cl tyL G YB M pc i x y
/-- what holds of the machine at a method's start, and goes on holding -/
def mFx (D : va_G) (cl : List vw_C) (dA : Nat → ClassId) (pre : Nat → Nat) (base : Nat) (ρ : Nat → Int32) (tyL : List FieldType) (NW : List Cond) (G : GI) (U : State) : Prop :=
  va_K D cl (mty dA tyL) U ∧ base ≤ U.heap.size ∧ (∀ (a n : Nat) (f : Nat → Int32), G.2.2.1 a = some (n, f) → a < 8 → va_T .int (pre a) n (fun j => .int (if a = 0 then ρ j else f j)) (fun q => base ≤ q) U U.heap) ∧ (∀ w ∈ NW, va_Nw w U) ∧ va_Z "HoleDesk" "PARTS" "[I" (.ref (pre 1)) (fun q => base ≤ q) U U.heap ∧ zqS base U ∧ csF base U ∧ (∀ q ∈ SS0, vk_R q.1 q.2.1 q.2.2.1 (pre q.2.2.2) U) ∧
  (∀ (a n : Nat) (f : Nat → Int32), G.2.2.1 a = some (n, f) → 8 ≤ a → a < 8 + NS0 → txF base (pre a) n f U ∧ n < 2 ^ 31 ∧ ∀ j, j < n → f j &&& 255 = f j)
section SO
variable {p : Program} {l : Launch} {e : Env} {R : Room} {s : State} {m : MethodId} {args : Array Value} {below : List Frame} {meth : Method} {c : Code} {Q : State → Prop}
variable {D : va_G} {cl : List vw_C} {dA : Nat → ClassId} {pre : Nat → Nat} {base : Nat} {ρ : Nat → Int32} {tyL : List FieldType} {Ts NW : List Cond} {G : GI} {YB : YT} {iv : List (Int × Int)}
variable {M pc nx x y : Nat} {i : Instr} {ls : ML} {st : List Value} {h : MH} {cells slots : Nat} {z : Nat × ML × List Value × MH × Nat × Nat} {alts : List (CD × Nat)} {cd : CD} {ls' : ML} {st' : List Value} {pc' : Nat}
theorem stp_on (X : mCx p s m args c D cl dA pre base ρ tyL Ts G (YB M).2 (YB M).1.cls (G.2.1 M)) (hI : ivP ρ iv) (hF : mFx D cl dA pre base ρ tyL NW G s) (hTL : mTL tyL) (hname : (YB M).1.name = "<init>" → meth.name = "<init>") (hE : EOK Ts NW cl tyL G YB M pc i nx x y) (hk : ikd i = 0) (hc : cells + z.2.2.2.2.1 ≤ R.cells) (hn : slots + z.2.2.2.2.2 ≤ R.slots) (hz : stepI iv G M pc i nx x y ls st h = some (.inl z)) (kk : mGo p l e R s m args below meth c Q D cl dA pre base ρ (G.2.1 M) z.1 z.2.1 z.2.2.1 z.2.2.2.1 (cells + z.2.2.2.2.1) (slots + z.2.2.2.2.2)) : mGo p l e R s m args below meth c Q D cl dA pre base ρ (G.2.1 M) pc ls st h cells slots := by
  cases i with
  | iconst a => exact so_iconst X hE.1.1 hE.1.2 hz kk
  | bipush a => exact so_bipush X hE.1.1 hE.1.2 hz kk
  | sipush a => exact so_sipush X hE.1.1 hE.1.2 hz kk
  | lconst a => exact so_lconst X hE.1.1 hE.1.2 hz kk
  | aconst_null => exact so_null X hE.1.1 hE.1.2 hz kk
  | iload_n a => exact so_iload_n X hE.1.1 hE.1.2 hz kk
  | iload a => exact so_iload X hE.1.1 hE.1.2 hz kk
  | lload_n a => exact so_lload_n X hE.1.1 hE.1.2 hz kk
  | lload a => exact so_lload X hE.1.1 hE.1.2 hz kk
  | aload_n a => exact so_aload_n X hE.1.1 hE.1.2 hz kk
  | aload a => exact so_aload X hE.1.1 hE.1.2 hz kk
  | iadd => exact so_iadd X hE.1.1 hE.1.2 hz kk
  | isub => exact so_isub X hE.1.1 hE.1.2 hz kk
  | imul => exact so_imul X hE.1.1 hE.1.2 hz kk
  | idiv => exact so_idiv X hE.1.1 hE.1.2 hz kk
  | irem => exact so_irem X hE.1.1 hE.1.2 hz kk
  | ineg => exact so_ineg X hE.1.1 hE.1.2 hz kk
  | i2l => exact so_i2l X hE.1.1 hE.1.2 hz kk
  | i2b => exact so_i2b X hE.1.1 hE.1.2 hz kk
  | l2i => exact so_l2i X hE.1.1 hE.1.2 hz kk
  | ladd => exact so_ladd X hE.1.1 hE.1.2 hz kk
  | lmul => exact so_lmul X hE.1.1 hE.1.2 hz kk
  | ldiv => exact so_ldiv X hE.1.1 hE.1.2 hz kk
  | lrem => exact so_lrem X hE.1.1 hE.1.2 hz kk
  | lneg => exact so_lneg X hE.1.1 hE.1.2 hz kk
  | lcmp => exact so_lcmp X hE.1.1 hE.1.2 hz kk
  | dup => exact so_dup X hE.1.1 hE.1.2 hz kk
  | pop => exact so_pop X hE.1.1 hE.1.2 hz kk
  | pop2 => exact so_pop2 X hE.1.1 hE.1.2 hz kk
  | dup_x1 => exact so_dup_x1 X hE.1.1 hE.1.2 hz kk
  | dup2 => exact so_dup2 X hE.1.1 hE.1.2 hz kk
  | istore_n a => exact so_istore_n X hE.1.1 hE.1.2 rfl hz kk
  | istore a => exact so_istore X hE.1.1 hE.1.2 rfl hz kk
  | astore_n a => exact so_astore_n X hE.1.1 hE.1.2 rfl hz kk
  | astore a => exact so_astore X hE.1.1 hE.1.2 rfl hz kk
  | lstore_n a => exact so_lstore_n X hE.1.1 hE.1.2 rfl hz kk
  | lstore a => exact so_lstore X hE.1.1 hE.1.2 rfl hz kk
  | iinc a b => exact so_iinc X hE.1.1 hE.1.2 hI rfl hz kk
  | iand => exact so_iand X hE.1.1 hE.1.2 hI hz kk
  | goto a => exact so_goto X hE.1.1 hE.1.2 hE.2 hz kk
  | ifnull a => exact so_ifnull X hE.1.1 hE.1.2 hE.2 hz kk
  | ifnonnull a => exact so_ifnonnull X hE.1.1 hE.1.2 hE.2 hz kk
  | if_acmp cc b =>
    cases cc
    · exact so_acmp_eq X hE.1.1 hE.1.2 hE.2 hz kk
    · exact so_acmp_ne X hE.1.1 hE.1.2 hE.2 hz kk
  | ldc a =>
    rcases hE.2 with ⟨h1, h2⟩ | ⟨h1, h2, tx, h3⟩
    · exact so_ldc X hE.1.1 hE.1.2 h1 h2 hz kk
    · have h4 := hF.2.2.2.2.2.2.2.1 _ h3
      exact so_ldcS X hE.1.1 hE.1.2 h1 h2 h4 hz kk
  | ldc_w a =>
    rcases hE.2 with ⟨h1, h2⟩ | ⟨h1, h2, tx, h3⟩
    · exact so_ldc_w X hE.1.1 hE.1.2 h1 h2 hz kk
    · have h4 := hF.2.2.2.2.2.2.2.1 _ h3
      exact so_ldc_wS X hE.1.1 hE.1.2 h1 h2 h4 hz kk
  | ldc2_w a => exact so_ldc2_w X hE.1.1 hE.1.2 hE.2 hz kk
  | getfield a =>
    obtain ⟨C, T, N, h1, h2, h3⟩ := hE.2
    exact so_getfield X hE.1.1 hE.1.2 h1 h2 h3 hz kk
  | putfield a =>
    obtain ⟨C, T, N, h1, h2, h3, h4⟩ := hE.2
    exact so_putfield X hE.1.1 hE.1.2 h1 h2 h3 (h4.imp id fun q => ⟨q.1, hname q.2.1, q.2.2⟩) hz kk
  | getstatic a =>
    obtain ⟨h1, h2 | h2⟩ := hE.2
    · subst h1
      exact so_gets (host := "") X hE.1.1 hE.1.2 h2 (by decide) hF.2.2.2.2.1 hz kk
    · subst h1
      exact so_getsN X hE.1.1 hE.1.2 (hF.2.2.2.1 _ h2) (by decide) hF.2.2.2.2.1 hz kk
  | arraylength => exact so_arraylength X hE.1.1 hE.1.2 hTL hz kk
  | iaload => exact so_iaload X hE.1.1 hE.1.2 hI hTL.1 hz kk
  | baload =>
    rcases hE.2 with h1 | h1
    · subst h1
      exact so_bald X hE.1.1 hE.1.2 (by decide) hTL.2.1 hz kk
    · subst h1
      exact so_zald X hE.1.1 hE.1.2 (by decide) hTL.2.2.1 hz kk
  | aaload => exact so_aaload X hE.1.1 hE.1.2 hTL hz kk
  | iastore => exact so_iastore X hE.1.1 hE.1.2 hTL hz kk
  | bastore =>
    rcases hE.2 with h1 | h1
    · exact so_bast X hE.1.1 hE.1.2 hTL h1 hz kk
    · exact so_zast X hE.1.1 hE.1.2 hTL h1 hz kk
  | aastore =>
    obtain ⟨C, T, N, h1, h2⟩ := hE.2
    exact so_aastore X hE.1.1 hE.1.2 h1 h2 hz kk
  | newarray a =>
    rcases hE.2 with ⟨h1, h2, h3⟩ | ⟨h1, h2, h3⟩ | ⟨h1, h2, h3⟩
    · subst h1; subst h2
      exact so_newI X hE.1.1 hE.1.2 h3 hTL.1 hc hn hz kk
    · subst h1; subst h2
      exact so_newB X hE.1.1 hE.1.2 h3 hTL.2.1 hc hn hz kk
    · subst h1; subst h2
      exact so_newZ X hE.1.1 hE.1.2 h3 hTL.2.2.1 hc hn hz kk
  | anewarray a =>
    obtain ⟨C, h1, h2, h3⟩ := hE.2
    exact so_anewarray X hE.1.1 hE.1.2 h1 (hF.2.2.2.1 _ h2) h3 hc hn hz kk
  | new a =>
    obtain ⟨C, T, N, h1, h2⟩ := hE.2
    exact so_new X hE.1.1 hE.1.2 h1 h2 hc hn hz kk
  | _ => first | exact absurd (show (1 : Nat) = 0 from hk) (by decide) | exact absurd (show (2 : Nat) = 0 from hk) (by decide) | exact absurd (show (3 : Nat) = 0 from hk) (by decide) | exact absurd (show (4 : Nat) = 0 from hk) (by decide)
theorem stp_br (X : mCx p s m args c D cl dA pre base ρ tyL Ts G (YB M).2 (YB M).1.cls (G.2.1 M)) (hE : EOK Ts NW cl tyL G YB M pc i nx x y) (hk : ikd i = 1) (hz : stepI iv G M pc i nx x y ls st h = some (.inr (.inr (.inr (alts, ls', st'))))) (hq : (cd, pc') ∈ alts) (hcd : cdP ρ cd) (kk : mGo p l e R s m args below meth c Q D cl dA pre base ρ (G.2.1 M) pc' ls' st' h cells slots) : mGo p l e R s m args below meth c Q D cl dA pre base ρ (G.2.1 M) pc ls st h cells slots := by
  cases i with
  | ifCond k off =>
    cases k with
    | eq => exact so_if_eq X hE.1.1 hE.1.2 hE.2 hz hq hcd kk
    | ne => exact so_if_ne X hE.1.1 hE.1.2 hE.2 hz hq hcd kk
    | lt => exact so_if_lt X hE.1.1 hE.1.2 hE.2 hz hq hcd kk
    | ge => exact so_if_ge X hE.1.1 hE.1.2 hE.2 hz hq hcd kk
    | gt => exact so_if_gt X hE.1.1 hE.1.2 hE.2 hz hq hcd kk
    | le => exact so_if_le X hE.1.1 hE.1.2 hE.2 hz hq hcd kk
  | if_icmp k off =>
    cases k with
    | eq => exact so_icmp_eq X hE.1.1 hE.1.2 hE.2 hz hq hcd kk
    | ne => exact so_icmp_ne X hE.1.1 hE.1.2 hE.2 hz hq hcd kk
    | lt => exact so_icmp_lt X hE.1.1 hE.1.2 hE.2 hz hq hcd kk
    | ge => exact so_icmp_ge X hE.1.1 hE.1.2 hE.2 hz hq hcd kk
    | gt => exact so_icmp_gt X hE.1.1 hE.1.2 hE.2 hz hq hcd kk
    | le => exact so_icmp_le X hE.1.1 hE.1.2 hE.2 hz hq hcd kk
  | tableswitch d lo hi offs =>
    obtain ⟨len, hd⟩ := hE.1
    exact so_tsw X hd hE.2.1 hE.2.2.1 hE.2.2.2 hz hq hcd kk
  | _ => first | exact absurd (show (0 : Nat) = 1 from hk) (by decide) | exact absurd (show (2 : Nat) = 1 from hk) (by decide) | exact absurd (show (3 : Nat) = 1 from hk) (by decide) | exact absurd (show (4 : Nat) = 1 from hk) (by decide)
theorem stp_rt {v : Option Value} (X : mCx p s m args c D cl dA pre base ρ tyL Ts G (YB M).2 (YB M).1.cls (G.2.1 M)) (hlocks : meth.locks = false) (hret : meth.sig.returnType = G.2.2.2.2.2.1 M) (hE : EOK Ts NW cl tyL G YB M pc i nx x y) (hk : ikd i = 2) (hz : stepI iv G M pc i nx x y ls st h = some (.inr (.inr (.inl v)))) : mGo p l e R s m args below meth c (MQ below (mQc D cl dA pre base ρ v h cells) args s cells slots (fun q => base ≤ q)) D cl dA pre base ρ (G.2.1 M) pc ls st h cells slots := by
  cases i with
  | ireturn => exact so_ireturn X hE.1.1 hlocks hret hz
  | lreturn => exact so_lreturn X hE.1.1 hlocks hret hz
  | areturn => exact so_areturn X hE.1.1 hlocks hret hz
  | return_ => exact so_return X hE.1.1 hlocks hret hz
  | _ => first | exact absurd (show (0 : Nat) = 2 from hk) (by decide) | exact absurd (show (1 : Nat) = 2 from hk) (by decide) | exact absurd (show (3 : Nat) = 2 from hk) (by decide) | exact absurd (show (4 : Nat) = 2 from hk) (by decide)
end SO
end
section
/-! A run of the small machine is a run of the machine. -/
def nst (w : Cond) : Prop := (∃ (a : String) (i : Nat) (b n d hh : String), w = .fieldLinkNest a i b n d hh) ∨ (∃ (a : String) (i : Nat) (x : MethodName) (hh : String), w = .methodLinkNest a i x hh) ∨ ∃ C : String, w = .arrayOver (.object C)
theorem mFx_on {D : va_G} {cl : List vw_C} {dA : Nat → ClassId} {pre : Nat → Nat} {base : Nat} {ρ : Nat → Int32} {tyL : List FieldType} {NW : List Cond} {G : GI} {s U : State} {H : Heap} {locs : List Loc} (hNW : ∀ w ∈ NW, nst w) (hF : mFx D cl dA pre base ρ tyL NW G s) (hS : va_S (fun q => base ≤ q) s.heap H locs) (hH : U.heap = H) (hW : s.WarmedH U.vm) : mFx D cl dA pre base ρ tyL NW G U := by
  subst hH
  obtain ⟨f1, f2, f3, f4, f5, f6, f7, f8, f9⟩ := hF
  refine ⟨f1.moved hW.alike, Nat.le_trans f2 hS.1, fun a n f hg h8 => ?_, fun w hw => ?_, ?_, zqS_on f6 hW.alike hS.2.1, csF_on f7 hW.alike hS.2.1, fun q hq => (f8 q hq).warm hW, fun a n f hg h8 h9 => ?_⟩
  · exact ((f3 a n f hg h8).kept hS.2.1).moved hW.alike
  · rcases hNW w hw with ⟨a, i, b, n, d, hh, rfl⟩ | ⟨a, i, x, hh, rfl⟩ | ⟨C, rfl⟩
    · exact (f4 _ hw).warmF hW
    · exact (f4 _ hw).warmM hW
    · exact va_AO.moved hW.alike (f4 _ hw)
  · exact (f5.kept hS.2.1).moved hW.alike
  · obtain ⟨g1, g2⟩ := f9 a n f hg h8 h9
    exact ⟨txF_on g1 hW.alike hS.2.1, g2⟩
def mPc (D : va_G) (cl : List vw_C) (dA : Nat → ClassId) (pre : Nat → Nat) (base : Nat) (ρ : Nat → Int32) (tyL : List FieldType) (NW : List Cond) (G : GI) (as : List Value) (h : MH) : Array Value → State → Prop := fun a U =>
  a = (as.map (emv pre base ρ)).toArray ∧ mR D cl dA pre base ρ h U.heap ∧ mFx D cl dA pre base ρ tyL NW G U
theorem mPc_blind {D : va_G} {cl : List vw_C} {dA : Nat → ClassId} {pre : Nat → Nat} {base : Nat} {ρ : Nat → Int32} {tyL : List FieldType} {NW : List Cond} {G : GI} {as : List Value} {h : MH} (hNW : ∀ w ∈ NW, nst w) : FrameBlind (mPc D cl dA pre base ρ tyL NW G as h) := by
  intro a U g mk hq
  obtain ⟨q1, q2, q3⟩ := hq
  exact ⟨q1, q2, mFx_on (U := U.calling g mk a) (locs := []) hNW q3 va_S.rf rfl (State.WarmedH.refl U)⟩
def rmOf (d k n : Nat) : Room := { frames := d + 8, cells := k, slots := n, locals := 400 + 40 * d }
theorem ment_em (pre : Nat → Nat) (base : Nat) (ρ : Nat → Int32) : ∀ (vs : List Value) (i : Nat), lv_args i (vs.map (emv pre base ρ)) = emL pre base ρ (ment i vs) := by
  intro vs
  induction vs with
  | nil => intro i; rfl
  | cons v r ih =>
    intro i
    show (i, emv pre base ρ v) :: lv_args (if (emv pre base ρ v).category = 2 then i + 2 else i + 1) (r.map (emv pre base ρ)) = (i, emv pre base ρ v) :: emL pre base ρ (ment (i + v.category) r)
    rw [emv_cat, ← ih]
    rcases lv_cat v with h | h
    · rw [h, if_neg (by decide)]
    · rw [h, if_pos rfl]
theorem sl_len (pre : Nat → Nat) (base : Nat) (ρ : Nat → Int32) : ∀ vs : List Value, (lg_sl (vs.map (emv pre base ρ))).length = mwid vs := by
  intro vs
  induction vs with
  | nil => rfl
  | cons v r ih =>
    unfold lg_sl at ih ⊢
    rw [List.map_cons, List.flatMap_cons, List.length_append, ih]
    unfold mwid
    rw [List.map_cons, List.sum_cons, emv_cat]
    rcases lv_cat v with h | h
    · rw [h, if_neg (by decide)]; rfl
    · rw [h, if_pos rfl]; rfl
section RUN
variable {l : Launch} {D : va_G} {cl : List vw_C} {dA : Nat → ClassId} {pre : Nat → Nat} {base : Nat} {ρ : Nat → Int32} {tyL : List FieldType} {Ts NW : List Cond} {G : GI} {YB : YT}
/-- a method's contract, out of its body's walk in any machine -/
def mBody (l : Launch) (D : va_G) (cl : List vw_C) (dA : Nat → ClassId) (pre : Nat → Nat) (base : Nat) (ρ : Nat → Int32) (tyL : List FieldType) (Ts NW : List Cond) (G : GI) (YB : YT) (d M pc : Nat) (ls : ML) (st : List Value) (h : MH) (k n : Nat) (v : Option Value) (h' : MH) (k' n' : Nat) : Prop :=
  ∀ (p : Program) (e : Env) (s : State) (m : MethodId) (args : Array Value) (below : List Frame) (meth : Method) (c : Code), mCx p s m args c D cl dA pre base ρ tyL Ts G (YB M).2 (YB M).1.cls (G.2.1 M) → mFx D cl dA pre base ρ tyL NW G s → meth.locks = false → meth.sig.returnType = G.2.2.2.2.2.1 M → ((YB M).1.name = "<init>" → meth.name = "<init>") →
    mGo p l e (rmOf d k' n') s m args below meth c (MQ below (mQc D cl dA pre base ρ v h' k') args s k' n' (fun q => base ≤ q)) D cl dA pre base ρ (G.2.1 M) pc ls st h k n
theorem met_of {d y : Nat} {as : List Value} {h h' : MH} {v : Option Value} {k' n' n : Nat} (hC : CFok Ts G YB y n) (hw : mwid as ≤ G.2.1 y) (hB : mBody l D cl dA pre base ρ tyL Ts NW G YB d y 0 (ment 0 as) [] h 0 0 v h' k' n') :
    Met l (YB y).1 (Cond.code (YB y).1 (YB y).2 (G.2.1 y) (G.2.2.2.2.2.1 y) :: Ts) (rmOf d k' n') (mPc D cl dA pre base ρ tyL NW G as h) (mQc D cl dA pre base ρ v h' k') k' n' (fun q => base ≤ q) := by
  refine Met.ofW (cc := (YB y).2) (maxL := G.2.1 y) (ret := G.2.2.2.2.2.1 y) hC.2.2.1 rfl ?_
  intro p e s m args below meth c s₁ B hml hv
  obtain ⟨rfl, hR, hF⟩ := hv
  have hts := atoms_spec (ws := Cond.code (YB y).1 (YB y).2 (G.2.1 y) (G.2.2.2.2.2.1 y) :: Ts) B.pre
  have X : mCx p s m (as.map (emv pre base ρ)).toArray c D cl dA pre base ρ tyL Ts G (YB y).2 (YB y).1.cls (G.2.1 y) := ⟨B.exec, B.bytes, hml, findClass_of_methodNamed B.named, fun w hw => hts w (List.mem_cons_of_mem _ hw), hF.1, hF.2.1, hF.2.2.1⟩
  have hl := lv_entry (as.map (emv pre base ρ)) (n := G.2.1 y) (by rw [sl_len]; exact hw)
  rw [ment_em] at hl
  rw [lg_entry_eq]
  exact hB p e s m _ below meth c X hF B.notSynchronized B.returns (fun q => (name_of_methodNamed B.named B.method).1.trans q) _ s.heap [] hl hR va_S.rf rfl
variable {p : Program} {e : Env} {R : Room} {s : State} {m : MethodId} {args : Array Value} {below : List Frame} {meth : Method} {c : Code} {Q : State → Prop}
theorem cl_go {nL pc cells slots k1 n1 : Nat} {ls : ML} {h1 : MH} {v1 : Option Value} {lsA : Array Slot} {H : Heap} {locs : List Loc} {stA r : List Value} {a : Array Value}
    (hr : va_Run p l e R s m args below meth c H locs cells slots k1 n1 (F0 m pc lsA stA) (r.map (emv pre base ρ)) (mQc D cl dA pre base ρ v1 h1 k1 a) (fun q => base ≤ q))
    (hL : lv_has lsA nL (emL pre base ρ ls)) (hS : va_S (fun q => base ≤ q) s.heap H locs) (hZ : s.heap.size + cells = H.size)
    (kk : mGo p l e R s m args below meth c Q D cl dA pre base ρ nL (pc + 3) ls (v1.toList ++ r) h1 (cells + k1) (slots + n1)) : W p l e R s m args below meth c H locs cells slots Q (F0 m pc lsA stA) := by
  intro T hT X
  obtain ⟨v, st₀, t, T', L, h0, X', hL', e1, e2, ⟨hv, hR1, hz1, hk1⟩, stg⟩ := hr T hT X
  cases hv
  rw [h0] at hz1 hk1
  have hst : (v1.toList ++ r).map (emv pre base ρ) = (v1.map (emv pre base ρ)).toList ++ r.map (emv pre base ρ) := by cases v1 <;> simp
  have k2 := kk lsA T'.heap (locs ++ L) hL (by rw [e1]; exact hR1) ⟨Nat.le_trans hS.1 (by rw [e1]; omega), fun q q1 q2 => by rw [e1, hk1 q (Nat.lt_of_lt_of_le q1 hS.1) q2]; exact hS.2.1 q q1 q2, fun q hq => by
    rcases List.mem_append.mp hq with h3 | h3
    · exact hS.2.2 q h3
    · exact hL' q h3⟩ (by rw [e1, hz1]; omega)
  rw [hst] at k2
  obtain ⟨t2, a1, b1⟩ := k2 T' rfl X'
  exact ⟨t2, stg t2 a1, b1⟩
end RUN
end
section
/-! A text's signs: String.charAt of a text that was there (its five methods), read only. -/
def rmS (d : Nat) : Room := { frames := d + 1, cells := 0, slots := 0, locals := 20 + 40 * d }
/-- an answer, the heap as it was -/
def qRd (v : Option Value) : Array Value → State → Outcome → State → Prop := fun _ st o t => o = .returned v ∧ t.heap = st.heap
theorem dPC_0 : decode bPC 0 = .ok (.iload_n 0, 1) := by decide +kernel
theorem dPC_1 : decode bPC 1 = .ok (.ifCond .lt 8, 3) := by decide +kernel
theorem dPC_4 : decode bPC 4 = .ok (.iload_n 0, 1) := by decide +kernel
theorem dPC_5 : decode bPC 5 = .ok (.iload_n 1, 1) := by decide +kernel
theorem dPC_6 : decode bPC 6 = .ok (.if_icmp .lt 10, 3) := by decide +kernel
theorem dPC_16 : decode bPC 16 = .ok (.iload_n 0, 1) := by decide +kernel
theorem dPC_17 : decode bPC 17 = .ok (.ireturn, 1) := by decide +kernel
theorem c_PC (l : Launch) (i n : Int32) (V : Value) (hV : V = .null ∨ ∃ t, V = .ref t) (h0 : ¬ i < 0) (h1 : i < n) (ws : List Cond) : Met l yPC (Cond.code yPC bPC 3 (some .int) :: ws) (rmS 0) (fun a _ => a = ([.int i, .int n, V] : List Value).toArray) (qRd (some (.int i))) 0 0 (fun _ => False) := by
  refine Met.ofW (cc := bPC) (maxL := 3) (ret := some .int) (by decide) rfl ?_
  intro p e s m args below meth c s₁ B hml hv
  subst hv
  have hx := B.exec
  have hb := B.bytes
  have hr := B.returns
  have hlocks := B.notSynchronized
  have hlen : (lg_sl [.int i, .int n, V]).length ≤ 3 := by rcases hV with rfl | ⟨t, rfl⟩ <;> exact Nat.le_of_ble_eq_true rfl
  have hl := lv_entry ([.int i, .int n, V]) (n := 3) hlen
  rw [lg_entry_eq]
  generalize (lg_sl ([.int i, .int n, V]) ++ List.replicate (3 - (lg_sl ([.int i, .int n, V])).length) Slot.unset).toArray = ls at hl ⊢
  have hl0 : ls[0]? = some (.val (.int i)) := lv_at hl 0 rfl
  have hl1 : ls[1]? = some (.val (.int n)) := lv_at hl 1 rfl
  refine lv_iload_n hx hb dPC_0 rfl hl0 ?_
  refine lv_if_lt (tgt := 9) hx hb dPC_1 rfl (fun q => absurd q h0) (fun _ => ?_)
  refine lv_iload_n hx hb dPC_4 rfl hl0 ?_
  refine lv_iload_n hx hb dPC_5 rfl hl1 ?_
  refine lv_icmp_lt (tgt := 16) hx hb dPC_6 rfl (fun _ => ?_) (fun q => absurd h1 q)
  refine lv_iload_n hx hb dPC_16 rfl hl0 ?_
  exact W.iret hx hb hr (fun t ht _ => ⟨rfl, ht⟩) (fun q h => by cases h) dPC_17
theorem strL_at {Ts : List Cond} (h : ∀ w ∈ strL, w ∈ Ts) (k : Nat) {w : Cond} (hk : strL[k]? = some w) : w ∈ Ts := h w (List.mem_of_getElem? hk)
theorem dSC_0 : decode bSC 0 = .ok (.iload_n 0, 1) := by decide +kernel
theorem dSC_1 : decode bSC 1 = .ok (.iload_n 1, 1) := by decide +kernel
theorem dSC_2 : decode bSC 2 = .ok (.getstatic 1053, 3) := by decide +kernel
theorem dSC_5 : decode bSC 5 = .ok (.invokestatic 1059, 3) := by decide +kernel
theorem dSC_8 : decode bSC 8 = .ok (.pop, 1) := by decide +kernel
theorem dSC_9 : decode bSC 9 = .ok (.return_, 1) := by decide +kernel
theorem roomD (d d2 M : Nat) (h : d < d2) (hM : M ≤ 21) : (rmS d).frames + 1 ≤ (rmS d2).frames ∧ 8 + (M + 11) + (rmS d).locals ≤ (rmS d2).locals := by
  unfold rmS
  constructor
  · simp only; omega
  · simp only; omega
theorem goodS {Ts : List Cond} (hG : ∀ w ∈ Ts, goodWord w = true) {w : Cond} (hw : w ∈ Ts) : GoodIn Ts (w :: Ts) := by
  intro v hv
  rcases List.mem_cons.mp hv with rfl | hv
  · exact ⟨hw, good_of_word (hG _ hw)⟩
  · exact ⟨hv, good_of_word (hG _ hv)⟩
theorem c_SC (l : Launch) {Ts : List Cond} (hG : ∀ w ∈ Ts, goodWord w = true) (hS : ∀ w ∈ strL, w ∈ Ts) (base : Nat) (i n : Int32) (h0 : ¬ i < 0) (h1 : i < n) : Met l ySC (Cond.code ySC bSC 2 none :: Ts) (rmS 1) (fun a U => a = ([.int i, .int n] : List Value).toArray ∧ zqS base U) (qRd none) 0 0 (fun _ => False) := by
  refine Met.ofW (cc := bSC) (maxL := 2) (ret := none) (by decide) rfl ?_
  intro p e s m args below meth c s₁ B hml hv
  obtain ⟨rfl, hZ⟩ := hv
  have hx := B.exec
  have hb := B.bytes
  have hr := B.returns
  have hlocks := B.notSynchronized
  have hts := atoms_spec (ws := Cond.code ySC bSC 2 none :: Ts) B.pre
  have htT : ∀ w ∈ Ts, w.before ([.int i, .int n] : List Value).toArray s = true := fun w hw => hts w (List.mem_cons_of_mem _ hw)
  have hown : s.vm.findClass "java/lang/String" = some m.cls := findClass_of_methodNamed B.named
  have hl := lv_entry ([.int i, .int n]) (n := 2) (Nat.le_of_ble_eq_true rfl)
  rw [lg_entry_eq]
  generalize (lg_sl ([.int i, .int n]) ++ List.replicate (2 - (lg_sl ([.int i, .int n])).length) Slot.unset).toArray = ls at hl ⊢
  have hl0 : ls[0]? = some (.val (.int i)) := lv_at hl 0 rfl
  have hl1 : ls[1]? = some (.val (.int n)) := lv_at hl 1 rfl
  have hSS : va_S (fun q => base ≤ q) s.heap s.heap [] := va_S.rf
  refine lv_iload_n hx hb dSC_0 rfl hl0 ?_
  refine lv_iload_n hx hb dSC_1 rfl hl1 ?_
  have key : ∀ V : Value, (V = .null ∨ ∃ t, V = .ref t) → W p l e (headSpec (Cond.code ySC bSC 2 none :: Ts) (rmS 1)).room s m ([.int i, .int n] : List Value).toArray below meth c s.heap [] 0 0 (MQ below (qRd none) ([.int i, .int n] : List Value).toArray s 0 0 (fun _ => False)) (F0 m 5 ls [V, .int n, .int i]) := by
    intro V hV
    have hcat : V.category = 1 := by rcases hV with rfl | ⟨t, rfl⟩ <;> rfl
    refine W.callX (W.runS (y := yPC) (bytes := bPC) (maxL := 3) (ret := some .int) (n := 3) (As := [.int i, .int n, V]) (rest := []) (Ts := Ts) ⟨hx, hb, hml, hown, htT⟩ (c_PC l i n V hV h0 h1 Ts) ⟨callB_of 3 htT (goodS hG (strL_at hS 0 rfl)) rfl rfl rfl (htT _ (strL_at hS 2 rfl)) (htT _ (strL_at hS 3 rfl)) ⟨by decide, by decide, by decide +kernel⟩ (roomD 0 1 3 (by decide) (by decide)), htT _ (strL_at hS 1 rfl)⟩ ⟨fun _ _ _ _ q => q, fun _ _ _ => rfl⟩ rfl rfl hl.1 rfl (Nat.le_of_ble_eq_true rfl) dSC_5 ⟨Nat.zero_le _, Nat.zero_le _⟩) (fun q h => h.elim) (fun v st₀ t g1 g2 => ?_)
    obtain ⟨g3, g4⟩ := g2
    cases g3
    rw [g4, g1]
    refine lv_pop hx hb dSC_8 rfl ?_
    exact W.vret hx hb hr (fun t ht _ => ⟨rfl, ht⟩) (fun q h => by cases h) dSC_9
  rcases hZ with hZ | ⟨t, hZ⟩
  · exact va_gets hx hb hZ hSS hown (htT _ (strL_at hS 4 rfl)) (fun q hq => hq) dSC_2 (key _ (Or.inl rfl))
  · exact va_gets hx hb hZ hSS hown (htT _ (strL_at hS 4 rfl)) (fun q hq => hq) dSC_2 (key _ (Or.inr ⟨t, rfl⟩))
theorem dLC_0 : decode bLC 0 = .ok (.iload_n 1, 1) := by decide +kernel
theorem dLC_1 : decode bLC 1 = .ok (.aload_n 0, 1) := by decide +kernel
theorem dLC_2 : decode bLC 2 = .ok (.arraylength, 1) := by decide +kernel
theorem dLC_3 : decode bLC 3 = .ok (.invokestatic 9, 3) := by decide +kernel
theorem dLC_6 : decode bLC 6 = .ok (.aload_n 0, 1) := by decide +kernel
theorem dLC_7 : decode bLC 7 = .ok (.iload_n 1, 1) := by decide +kernel
theorem dLC_8 : decode bLC 8 = .ok (.baload, 1) := by decide +kernel
theorem dLC_9 : decode bLC 9 = .ok (.sipush 255, 3) := by decide +kernel
theorem dLC_12 : decode bLC 12 = .ok (.iand, 1) := by decide +kernel
theorem dLC_13 : decode bLC 13 = .ok (.i2c, 1) := by decide +kernel
theorem dLC_14 : decode bLC 14 = .ok (.ireturn, 1) := by decide +kernel
theorem vin_lt {i : Int32} {n : Nat} (h : vp_in i n) (hn : n < 2 ^ 31) : ¬ i < 0 ∧ i < Int32.ofNat n := by
  obtain ⟨h1, h2⟩ := vp_in_iff.mp h
  refine ⟨fun q => h (Or.inl q), Int32.lt_iff_toInt_lt.mpr ?_⟩
  rw [show (Int32.ofNat n).toInt = (n : Int) from nI_toInt hn]
  exact h2
theorem c_LC (l : Launch) {Ts : List Cond} (hG : ∀ w ∈ Ts, goodWord w = true) (hS : ∀ w ∈ strL, w ∈ Ts) (base q n : Nat) (f : Nat → Int32) (i : Int32) (hi : vp_in i n) (hn : n < 2 ^ 31) : Met l yLC (Cond.code yLC bLC 2 (some .char) :: Ts) (rmS 2) (fun a U => a = ([.ref q, .int i] : List Value).toArray ∧ va_T .byte q n (fun j => .int (f j)) (fun a => base ≤ a) U U.heap ∧ zqS base U) (qRd (some (.int (f i.toNatClampNeg &&& 255)))) 0 0 (fun _ => False) := by
  refine Met.ofW (cc := bLC) (maxL := 2) (ret := some .char) (by decide) rfl ?_
  intro p e s m args below meth c s₁ B hml hv
  obtain ⟨rfl, hT, hZ⟩ := hv
  have hx := B.exec
  have hb := B.bytes
  have hr := B.returns
  have hlocks := B.notSynchronized
  have hts := atoms_spec (ws := Cond.code yLC bLC 2 (some .char) :: Ts) B.pre
  have htT : ∀ w ∈ Ts, w.before ([.ref q, .int i] : List Value).toArray s = true := fun w hw => hts w (List.mem_cons_of_mem _ hw)
  have hown : s.vm.findClass "java/lang/StringLatin1" = some m.cls := findClass_of_methodNamed B.named
  have hl := lv_entry ([.ref q, .int i]) (n := 2) (Nat.le_of_ble_eq_true rfl)
  rw [lg_entry_eq]
  generalize (lg_sl ([.ref q, .int i]) ++ List.replicate (2 - (lg_sl ([.ref q, .int i])).length) Slot.unset).toArray = ls at hl ⊢
  have hl0 : ls[0]? = some (.val (.ref q)) := lv_at hl 0 rfl
  have hl1 : ls[1]? = some (.val (.int i)) := lv_at hl 1 rfl
  have hSS : va_S (fun q => base ≤ q) s.heap s.heap [] := va_S.rf
  obtain ⟨g0, g1⟩ := vin_lt hi hn
  refine lv_iload_n hx hb dLC_0 rfl hl1 ?_
  refine lv_aload_n hx hb dLC_1 rfl hl0 ?_
  refine va_tlen hx hb hT hSS rfl dLC_2 ?_
  refine W.callX (W.runS (y := ySC) (bytes := bSC) (maxL := 2) (ret := none) (n := 2) (As := [.int i, .int (Int32.ofNat n)]) (rest := []) (Ts := Ts) ⟨hx, hb, hml, hown, htT⟩ (c_SC l hG hS base i (Int32.ofNat n) g0 g1) ⟨callB_of 2 htT (goodS hG (strL_at hS 5 rfl)) rfl rfl rfl (htT _ (strL_at hS 7 rfl)) (htT _ (strL_at hS 8 rfl)) ⟨by decide, by decide, by decide +kernel⟩ (roomD 1 2 2 (by decide) (by decide)), htT _ (strL_at hS 6 rfl)⟩ ⟨fun a U g mk h => ⟨h.1, zqS_on (U := U.calling g mk a) h.2 (Vm.Alike.refl U.vm) (fun _ _ _ => rfl)⟩, fun U hU hW => ⟨rfl, zqS_on hZ hW.alike (fun _ _ _ => by rw [hU])⟩⟩ rfl rfl hl.1 rfl (Nat.le_of_ble_eq_true rfl) dLC_3 ⟨Nat.zero_le _, Nat.zero_le _⟩) (fun q h => h.elim) (fun v st₀ t k1 k2 => ?_)
  obtain ⟨k3, k4⟩ := k2
  cases k3
  rw [k4, k1]
  refine lv_aload_n hx hb dLC_6 rfl hl0 ?_
  refine lv_iload_n hx hb dLC_7 rfl hl1 ?_
  refine va_tb hx hb hT hSS hi rfl dLC_8 ?_
  refine lv_sipush hx hb dLC_9 rfl ?_
  refine lv_iand hx hb dLC_12 ?_
  refine lv_i2c hx hb dLC_13 (sc_c2 (f i.toNatClampNeg)) ?_
  exact W.zret hx hb hr (sc_nar (f i.toNatClampNeg)) (fun t ht _ => ⟨rfl, ht⟩) (fun q h => by cases h) dLC_14
theorem dIL_0 : decode bIL 0 = .ok (.getstatic 38, 3) := by decide +kernel
theorem dIL_3 : decode bIL 3 = .ok (.ifCond .eq 14, 3) := by decide +kernel
theorem dIL_6 : decode bIL 6 = .ok (.aload_n 0, 1) := by decide +kernel
theorem dIL_7 : decode bIL 7 = .ok (.getfield 15, 3) := by decide +kernel
theorem dIL_10 : decode bIL 10 = .ok (.ifCond .ne 7, 3) := by decide +kernel
theorem dIL_13 : decode bIL 13 = .ok (.iconst 1, 1) := by decide +kernel
theorem dIL_14 : decode bIL 14 = .ok (.goto 4, 3) := by decide +kernel
theorem dIL_18 : decode bIL 18 = .ok (.ireturn, 1) := by decide +kernel
theorem c_IL (l : Launch) {Ts : List Cond} (hS : ∀ w ∈ strL, w ∈ Ts) (base q n : Nat) (f : Nat → Int32) : Met l yIL (Cond.code yIL bIL 1 (some .boolean) :: Ts) (rmS 0) (fun a U => a = ([.ref q] : List Value).toArray ∧ txF base q n f U ∧ csF base U) (qRd (some (.int 1))) 0 0 (fun _ => False) := by
  refine Met.ofW (cc := bIL) (maxL := 1) (ret := some .boolean) (by decide) rfl ?_
  intro p e s m args below meth c s₁ B hml hv
  obtain ⟨rfl, ⟨qv, t1, t2, t3, t4⟩, hC⟩ := hv
  have hx := B.exec
  have hb := B.bytes
  have hr := B.returns
  have hlocks := B.notSynchronized
  have hts := atoms_spec (ws := Cond.code yIL bIL 1 (some .boolean) :: Ts) B.pre
  have htT : ∀ w ∈ Ts, w.before ([.ref q] : List Value).toArray s = true := fun w hw => hts w (List.mem_cons_of_mem _ hw)
  have hown : s.vm.findClass "java/lang/String" = some m.cls := findClass_of_methodNamed B.named
  have hl := lv_entry ([.ref q]) (n := 1) (Nat.le_of_ble_eq_true rfl)
  rw [lg_entry_eq]
  generalize (lg_sl ([.ref q]) ++ List.replicate (1 - (lg_sl ([.ref q])).length) Slot.unset).toArray = ls at hl ⊢
  have hl0 : ls[0]? = some (.val (.ref q)) := lv_at hl 0 rfl
  have hSS : va_S (fun q => base ≤ q) s.heap s.heap [] := va_S.rf
  refine va_gets hx hb hC hSS hown (htT _ (strL_at hS 17 rfl)) (fun q hq => hq) dIL_0 ?_
  refine lv_if_eq (tgt := 17) hx hb dIL_3 rfl (fun h => absurd h (by decide)) (fun _ => ?_)
  refine lv_aload_n hx hb dIL_6 rfl hl0 ?_
  refine vk_getf hx hb t2 hSS hown (htT _ (strL_at hS 18 rfl)) (fun q hq => hq) dIL_7 ?_
  refine lv_if_ne (tgt := 17) hx hb dIL_10 rfl (fun h => absurd rfl h) (fun _ => ?_)
  refine lv_iconst hx hb dIL_13 rfl ?_
  refine lv_goto (tgt := 18) hx hb dIL_14 rfl ?_
  exact W.zret (v := 1) hx hb hr rfl (fun t ht _ => ⟨rfl, ht⟩) (fun q h => by cases h) dIL_18
theorem dCA_0 : decode bCA 0 = .ok (.aload_n 0, 1) := by decide +kernel
theorem dCA_1 : decode bCA 1 = .ok (.invokevirtual 492, 3) := by decide +kernel
theorem dCA_4 : decode bCA 4 = .ok (.ifCond .eq 12, 3) := by decide +kernel
theorem dCA_7 : decode bCA 7 = .ok (.aload_n 0, 1) := by decide +kernel
theorem dCA_8 : decode bCA 8 = .ok (.getfield 9, 3) := by decide +kernel
theorem dCA_11 : decode bCA 11 = .ok (.iload_n 1, 1) := by decide +kernel
theorem dCA_12 : decode bCA 12 = .ok (.invokestatic 495, 3) := by decide +kernel
theorem dCA_15 : decode bCA 15 = .ok (.ireturn, 1) := by decide +kernel
theorem c_CA (l : Launch) {Ts : List Cond} (hG : ∀ w ∈ Ts, goodWord w = true) (hS : ∀ w ∈ strL, w ∈ Ts) (base q n : Nat) (f : Nat → Int32) (i : Int32) (hi : vp_in i n) (hn : n < 2 ^ 31) : Met l yCA (Cond.code yCA bCA 2 (some .char) :: Ts) (rmS 3) (fun a U => a = ([.ref q, .int i] : List Value).toArray ∧ txF base q n f U ∧ csF base U ∧ zqS base U) (qRd (some (.int (f i.toNatClampNeg &&& 255)))) 0 0 (fun _ => False) := by
  refine Met.ofW (cc := bCA) (maxL := 2) (ret := some .char) (by decide) rfl ?_
  intro p e s m args below meth c s₁ B hml hv
  obtain ⟨rfl, hX, hC, hZ⟩ := hv
  obtain ⟨qv, t1, t2, t3, t4⟩ := id hX
  have hx := B.exec
  have hb := B.bytes
  have hr := B.returns
  have hlocks := B.notSynchronized
  have hts := atoms_spec (ws := Cond.code yCA bCA 2 (some .char) :: Ts) B.pre
  have htT : ∀ w ∈ Ts, w.before ([.ref q, .int i] : List Value).toArray s = true := fun w hw => hts w (List.mem_cons_of_mem _ hw)
  have hown : s.vm.findClass "java/lang/String" = some m.cls := findClass_of_methodNamed B.named
  have hl := lv_entry ([.ref q, .int i]) (n := 2) (Nat.le_of_ble_eq_true rfl)
  rw [lg_entry_eq]
  generalize (lg_sl ([.ref q, .int i]) ++ List.replicate (2 - (lg_sl ([.ref q, .int i])).length) Slot.unset).toArray = ls at hl ⊢
  have hl0 : ls[0]? = some (.val (.ref q)) := lv_at hl 0 rfl
  have hl1 : ls[1]? = some (.val (.int i)) := lv_at hl 1 rfl
  have hSS : va_S (fun q => base ≤ q) s.heap s.heap [] := va_S.rf
  refine lv_aload_n hx hb dCA_0 rfl hl0 ?_
  refine W.callX (W.runV (y := yIL) (C := "java/lang/String") (b := q) (bytes := bIL) (maxL := 1) (ret := some .boolean) (n := 0) (As := []) (rest := []) (Ts := Ts) ⟨hx, hb, hml, hown, htT⟩ (c_IL l hS base q n f) ⟨callB_of 0 htT (goodS hG (strL_at hS 13 rfl)) rfl rfl rfl (htT _ (strL_at hS 7 rfl)) (htT _ (strL_at hS 16 rfl)) ⟨by decide, by decide, by decide +kernel⟩ (roomD 0 3 1 (by decide) (by decide)), htT _ (strL_at hS 14 rfl), htT _ (strL_at hS 15 rfl)⟩ ⟨fun a U g mk h => ⟨h.1, txF_on (U := U.calling g mk a) h.2.1 (Vm.Alike.refl U.vm) (fun _ _ _ => rfl), csF_on (U := U.calling g mk a) h.2.2 (Vm.Alike.refl U.vm) (fun _ _ _ => rfl)⟩, (by obtain ⟨cell, k1, k2, k3, -⟩ := t1; exact ⟨cell, k1, k2, k3⟩), fun U hU hW => ⟨rfl, txF_on hX hW.alike (fun _ _ _ => by rw [hU]), csF_on hC hW.alike (fun _ _ _ => by rw [hU])⟩⟩ rfl rfl hl.1 rfl (Nat.le_of_ble_eq_true rfl) dCA_1 ⟨Nat.zero_le _, Nat.zero_le _⟩) (fun q h => h.elim) (fun v st₀ t k1 k2 => ?_)
  obtain ⟨k3, k4⟩ := k2
  cases k3
  rw [k4, k1]
  refine lv_if_eq (tgt := 16) hx hb dCA_4 rfl (fun h => absurd h (by decide)) (fun _ => ?_)
  refine lv_aload_n hx hb dCA_7 rfl hl0 ?_
  refine vk_getf hx hb t3 hSS hown (htT _ (strL_at hS 19 rfl)) (fun q hq => hq) dCA_8 ?_
  refine lv_iload_n hx hb dCA_11 rfl hl1 ?_
  refine W.callX (W.runS (y := yLC) (bytes := bLC) (maxL := 2) (ret := some .char) (n := 2) (As := [.ref qv, .int i]) (rest := []) (Ts := Ts) ⟨hx, hb, hml, hown, htT⟩ (c_LC l hG hS base qv n f i hi hn) ⟨callB_of 2 htT (goodS hG (strL_at hS 9 rfl)) rfl rfl rfl (htT _ (strL_at hS 11 rfl)) (htT _ (strL_at hS 12 rfl)) ⟨by decide, by decide, by decide +kernel⟩ (roomD 2 3 2 (by decide) (by decide)), htT _ (strL_at hS 10 rfl)⟩ ⟨fun a U g mk h => ⟨h.1, h.2.1.moved (Vm.Alike.refl U.vm), zqS_on (U := U.calling g mk a) h.2.2 (Vm.Alike.refl U.vm) (fun _ _ _ => rfl)⟩, fun U hU hW => ⟨rfl, by rw [hU]; exact t4.moved hW.alike, zqS_on hZ hW.alike (fun _ _ _ => by rw [hU])⟩⟩ rfl rfl hl.1 rfl (Nat.le_of_ble_eq_true rfl) dCA_12 ⟨Nat.zero_le _, Nat.zero_le _⟩) (fun q h => h.elim) (fun v2 st2 t2' k5 k6 => ?_)
  obtain ⟨k7, k8⟩ := k6
  cases k7
  rw [k8, k5]
  exact W.zret hx hb hr (sc_nar (f i.toNatClampNeg)) (fun t ht _ => ⟨rfl, ht⟩) (fun q h => by cases h) dCA_15
theorem dCO_0 : decode bCO 0 = .ok (.getstatic 38, 3) := by decide +kernel
theorem dCO_3 : decode bCO 3 = .ok (.ifCond .eq 10, 3) := by decide +kernel
theorem dCO_6 : decode bCO 6 = .ok (.aload_n 0, 1) := by decide +kernel
theorem dCO_7 : decode bCO 7 = .ok (.getfield 15, 3) := by decide +kernel
theorem dCO_10 : decode bCO 10 = .ok (.goto 4, 3) := by decide +kernel
theorem dCO_14 : decode bCO 14 = .ok (.ireturn, 1) := by decide +kernel
theorem c_CO (l : Launch) {Ts : List Cond} (hS : ∀ w ∈ strL, w ∈ Ts) (base q n : Nat) (f : Nat → Int32) : Met l yCO (Cond.code yCO bCO 1 (some .byte) :: Ts) (rmS 0) (fun a U => a = ([.ref q] : List Value).toArray ∧ txF base q n f U ∧ csF base U) (qRd (some (.int 0))) 0 0 (fun _ => False) := by
  refine Met.ofW (cc := bCO) (maxL := 1) (ret := some .byte) (by decide) rfl ?_
  intro p e s m args below meth c s₁ B hml hv
  obtain ⟨rfl, ⟨qv, t1, t2, t3, t4⟩, hC⟩ := hv
  have hx := B.exec
  have hb := B.bytes
  have hr := B.returns
  have hlocks := B.notSynchronized
  have hts := atoms_spec (ws := Cond.code yCO bCO 1 (some .byte) :: Ts) B.pre
  have htT : ∀ w ∈ Ts, w.before ([.ref q] : List Value).toArray s = true := fun w hw => hts w (List.mem_cons_of_mem _ hw)
  have hown : s.vm.findClass "java/lang/String" = some m.cls := findClass_of_methodNamed B.named
  have hl := lv_entry ([.ref q]) (n := 1) (Nat.le_of_ble_eq_true rfl)
  rw [lg_entry_eq]
  generalize (lg_sl ([.ref q]) ++ List.replicate (1 - (lg_sl ([.ref q])).length) Slot.unset).toArray = ls at hl ⊢
  have hl0 : ls[0]? = some (.val (.ref q)) := lv_at hl 0 rfl
  have hSS : va_S (fun q => base ≤ q) s.heap s.heap [] := va_S.rf
  refine va_gets hx hb hC hSS hown (htT _ (strL_at hS 17 rfl)) (fun q hq => hq) dCO_0 ?_
  refine lv_if_eq (tgt := 13) hx hb dCO_3 rfl (fun h => absurd h (by decide)) (fun _ => ?_)
  refine lv_aload_n hx hb dCO_6 rfl hl0 ?_
  refine vk_getf hx hb t2 hSS hown (htT _ (strL_at hS 18 rfl)) (fun q hq => hq) dCO_7 ?_
  refine lv_goto (tgt := 14) hx hb dCO_10 rfl ?_
  exact W.zret (v := 0) hx hb hr rfl (fun t ht _ => ⟨rfl, ht⟩) (fun q h => by cases h) dCO_14
theorem dLN_0 : decode bLN 0 = .ok (.aload_n 0, 1) := by decide +kernel
theorem dLN_1 : decode bLN 1 = .ok (.getfield 9, 3) := by decide +kernel
theorem dLN_4 : decode bLN 4 = .ok (.arraylength, 1) := by decide +kernel
theorem dLN_5 : decode bLN 5 = .ok (.aload_n 0, 1) := by decide +kernel
theorem dLN_6 : decode bLN 6 = .ok (.invokevirtual 335, 3) := by decide +kernel
theorem dLN_9 : decode bLN 9 = .ok (.ishr, 1) := by decide +kernel
theorem dLN_10 : decode bLN 10 = .ok (.ireturn, 1) := by decide +kernel
theorem shr_0 (v : Int32) : v >>> ((0 : Int32) &&& 31) = v := by
  apply Int32.toBitVec.inj
  simp [Int32.toBitVec_shiftRight]
theorem c_LN (l : Launch) {Ts : List Cond} (hG : ∀ w ∈ Ts, goodWord w = true) (hS : ∀ w ∈ strL, w ∈ Ts) (base q n : Nat) (f : Nat → Int32) : Met l yLN (Cond.code yLN bLN 1 (some .int) :: Ts) (rmS 1) (fun a U => a = ([.ref q] : List Value).toArray ∧ txF base q n f U ∧ csF base U) (qRd (some (.int (Int32.ofNat n)))) 0 0 (fun _ => False) := by
  refine Met.ofW (cc := bLN) (maxL := 1) (ret := some .int) (by decide) rfl ?_
  intro p e s m args below meth c s₁ B hml hv
  obtain ⟨rfl, hX, hC⟩ := hv
  obtain ⟨qv, t1, t2, t3, t4⟩ := id hX
  have hx := B.exec
  have hb := B.bytes
  have hr := B.returns
  have hlocks := B.notSynchronized
  have hts := atoms_spec (ws := Cond.code yLN bLN 1 (some .int) :: Ts) B.pre
  have htT : ∀ w ∈ Ts, w.before ([.ref q] : List Value).toArray s = true := fun w hw => hts w (List.mem_cons_of_mem _ hw)
  have hown : s.vm.findClass "java/lang/String" = some m.cls := findClass_of_methodNamed B.named
  have hl := lv_entry ([.ref q]) (n := 1) (Nat.le_of_ble_eq_true rfl)
  rw [lg_entry_eq]
  generalize (lg_sl ([.ref q]) ++ List.replicate (1 - (lg_sl ([.ref q])).length) Slot.unset).toArray = ls at hl ⊢
  have hl0 : ls[0]? = some (.val (.ref q)) := lv_at hl 0 rfl
  have hSS : va_S (fun q => base ≤ q) s.heap s.heap [] := va_S.rf
  refine lv_aload_n hx hb dLN_0 rfl hl0 ?_
  refine vk_getf hx hb t3 hSS hown (htT _ (strL_at hS 19 rfl)) (fun q hq => hq) dLN_1 ?_
  refine va_tlen hx hb t4 hSS rfl dLN_4 ?_
  refine lv_aload_n hx hb dLN_5 rfl hl0 ?_
  refine W.callX (W.runV (y := yCO) (C := "java/lang/String") (b := q) (bytes := bCO) (maxL := 1) (ret := some .byte) (n := 0) (As := []) (rest := [.int (Int32.ofNat n)]) (Ts := Ts) ⟨hx, hb, hml, hown, htT⟩ (c_CO l hS base q n f) ⟨callB_of 0 htT (goodS hG (strL_at hS 23 rfl)) rfl rfl rfl (htT _ (strL_at hS 7 rfl)) (htT _ (strL_at hS 26 rfl)) ⟨by decide, by decide, by decide +kernel⟩ (roomD 0 1 1 (by decide) (by decide)), htT _ (strL_at hS 24 rfl), htT _ (strL_at hS 25 rfl)⟩ ⟨fun a U g mk h => ⟨h.1, txF_on (U := U.calling g mk a) h.2.1 (Vm.Alike.refl U.vm) (fun _ _ _ => rfl), csF_on (U := U.calling g mk a) h.2.2 (Vm.Alike.refl U.vm) (fun _ _ _ => rfl)⟩, (by obtain ⟨cell, k1, k2, k3, -⟩ := t1; exact ⟨cell, k1, k2, k3⟩), fun U hU hW => ⟨rfl, txF_on hX hW.alike (fun _ _ _ => by rw [hU]), csF_on hC hW.alike (fun _ _ _ => by rw [hU])⟩⟩ rfl rfl hl.1 rfl (Nat.le_of_ble_eq_true rfl) dLN_6 ⟨Nat.zero_le _, Nat.zero_le _⟩) (fun q h => h.elim) (fun v st₀ t k1 k2 => ?_)
  obtain ⟨k3, k4⟩ := k2
  cases k3
  rw [k4, k1]
  refine lv_ishr hx hb dLN_9 ?_
  rw [shr_0]
  exact W.iret hx hb hr (fun t ht _ => ⟨rfl, ht⟩) (fun q h => by cases h) dLN_10
end
section
/-! The whole run, by fuel. -/
section RUN
variable {l : Launch} {D : va_G} {cl : List vw_C} {dA : Nat → ClassId} {pre : Nat → Nat} {base : Nat} {ρ : Nat → Int32} {tyL : List FieldType} {Ts NW : List Cond} {G : GI} {YB : YT} {iv : List (Int × Int)}
variable {p : Program} {e : Env} {R : Room} {s : State} {m : MethodId} {args : Array Value} {below : List Frame} {meth : Method} {c : Code} {Q : State → Prop}
theorem good_cons {y : Nat} {Ts : List Cond} {G : GI} {YB : YT} {n : Nat} (hG : ∀ w ∈ Ts, goodWord w = true) (hC : CFok Ts G YB y n) : GoodIn Ts (Cond.code (YB y).1 (YB y).2 (G.2.1 y) (G.2.2.2.2.2.1 y) :: Ts) := by
  intro w hw
  rcases List.mem_cons.mp hw with rfl | hw
  · exact ⟨hC.1, good_of_word (hG _ hC.1)⟩
  · exact ⟨hw, good_of_word (hG _ hw)⟩
theorem drop_ref {st r : List Value} {y b : Nat} (h : st.drop y = .ref b :: r) (pre : Nat → Nat) (base : Nat) (ρ : Nat → Int32) : st.map (emv pre base ρ) = (((st.take y).reverse).map (emv pre base ρ)).reverse ++ .ref (mad pre base b) :: r.map (emv pre base ρ) ∧ (((st.take y).reverse).map (emv pre base ρ)).length = y := by
  have hl : y < st.length := by
    rcases Nat.lt_or_ge y st.length with h1 | h1
    · exact h1
    · rw [List.drop_eq_nil_of_le h1] at h
      cases h
  constructor
  · have h1 : st = st.take y ++ (.ref b :: r) := by rw [← h, List.take_append_drop]
    have h2 : st.map (emv pre base ρ) = (st.take y ++ (.ref b :: r)).map (emv pre base ρ) := congrArg _ h1
    rw [h2, List.map_append, List.map_reverse, List.reverse_reverse]
    rfl
  · rw [List.length_map, List.length_reverse, List.length_take]
    omega
/-- a call: what the small machine asks of it is what the machine asks -/
theorem stp_call {M pc nx x y d K N cells slots : Nat} {i : Instr} {ls : ML} {st as r : List Value} {h h1 : MH} {cy pc' k1 n1 : Nat} {v1 : Option Value}
    (hNW : ∀ w ∈ NW, nst w) (hG : ∀ w ∈ Ts, goodWord w = true)
    (X : mCx p s m args c D cl dA pre base ρ tyL Ts G (YB M).2 (YB M).1.cls (G.2.1 M)) (hF : mFx D cl dA pre base ρ tyL NW G s)
    (hE : EOK Ts NW cl tyL G YB M pc i nx x y) (hk : ikd i = 3) (hz : stepI iv G M pc i nx x y ls st h = some (.inr (.inl (cy, as, r, pc'))))
    (hr8 : mwid r ≤ 8) (hw : mwid as ≤ G.2.1 cy) (h21 : G.2.1 cy ≤ 21) (hB : mBody l D cl dA pre base ρ tyL Ts NW G YB d cy 0 (ment 0 as) [] h 0 0 v1 h1 k1 n1)
    (hck : cells + k1 ≤ K) (hcn : slots + n1 ≤ N)
    (kk : mGo p l e (rmOf (d + 1) K N) s m args below meth c Q D cl dA pre base ρ (G.2.1 M) pc' ls (v1.toList ++ r) h1 (cells + k1) (slots + n1)) :
    mGo p l e (rmOf (d + 1) K N) s m args below meth c Q D cl dA pre base ρ (G.2.1 M) pc ls st h cells slots := by
  have hroom : (rmOf d k1 n1).frames + 1 ≤ (rmOf (d + 1) K N).frames ∧ 8 + (G.2.1 cy + 11) + (rmOf d k1 n1).locals ≤ (rmOf (d + 1) K N).locals := by
    unfold rmOf
    constructor
    · simp only; omega
    · simp only; omega
  have hfix : CallFix p m c (YB M).2 (G.2.1 M) s args Ts (YB M).1.cls := ⟨X.1, X.2.1, X.2.2.1, X.2.2.2.1, X.2.2.2.2.1⟩
  have hts := X.2.2.2.2.1
  have hmon : ∀ (lsA : Array Slot) (stA : List Value), 2 * (F0 m pc lsA stA).monitorRoom + ((r.map (emv pre base ρ)).map fun v => v.category).sum ≤ 8 := fun lsA stA => by
    rw [mwid_map]
    show 2 * 0 + _ ≤ 8
    omega
  cases i with
  | invokevirtual idx =>
    rcases hE.2 with ⟨hx, -⟩ | ⟨hx, -⟩ | ⟨n1', n2', hC, hl, hin, hse, T, N', hcl⟩
    · have hz1 : (if x = 9001 then _ else _) = _ := hz
      rw [if_pos hx] at hz1
      obtain ⟨i, r1, rfl, hz2⟩ := s1i_ok hz1
      obtain ⟨a, r2, rfl, hz3⟩ := s1r_ok hz2
      obtain ⟨-, hz4⟩ := if_ok hz3
      split at hz4
      · obtain ⟨-, hz5⟩ := if_ok hz4
        cases hz5
      · cases hz4
    · have hz1 : (if x = 9001 then _ else if x = 9002 then _ else _) = _ := hz
      rw [if_neg (by omega), if_pos hx] at hz1
      obtain ⟨a, r2, rfl, hz3⟩ := s1r_ok hz1
      obtain ⟨-, hz4⟩ := if_ok hz3
      split at hz4
      · obtain ⟨-, hz5⟩ := if_ok hz4
        cases hz5
      · cases hz4
    have hz1 : (if x = 9001 then _ else if x = 9002 then _ else _) = _ := hz
    rw [if_neg n1', if_neg n2'] at hz1
    cases hd : st.drop y with
    | nil => rw [hd] at hz1; cases hz1
    | cons v0 r0 =>
      rw [hd] at hz1
      cases v0 with
      | ref b =>
        simp only at hz1
        cases hg : mget h b with
        | none => rw [hg] at hz1; cases hz1
        | some w =>
          rw [hg] at hz1
          rcases w with w | ⟨ci, fs⟩
          · cases hz1
          · obtain ⟨hci, hz2⟩ := if_ok hz1
            cases hz2
            have hpc : nx = pc + 3 := hE.1.2
            subst hpc
            intro lsA H locs hL hR hS hZ
            obtain ⟨g1, g2⟩ := drop_ref hd pre base ρ
            refine cl_go (va_runV (C := (YB x).1.cls) (b := mad pre base b) (As := ((st.take y).reverse).map (emv pre base ρ)) (rest := r.map (emv pre base ρ)) hfix (met_of hC hw hB) ⟨callB_of y hts (good_cons hG hC) rfl rfl rfl (hts _ hC.2.1) (hts _ hl) ⟨hC.2.2.2.1.1, hC.2.2.2.1.2, hC.2.2.2.2⟩ hroom, hts _ hin, hts _ hse⟩ ⟨mPc_blind hNW, ?_, fun U hU hW => ⟨rfl, by rw [hU]; exact hR, mFx_on hNW hF hS hU hW⟩⟩ rfl g2 hL.1 g1 (hmon _ _) hE.1.1 ⟨hck, hcn⟩) hL hS hZ kk
            rw [← hci] at hcl
            exact va_recv X.2.2.2.2.2.1 hR.2.1 hcl (mws_get hR.1 hg)
      | _ => cases hz1
  | invokespecial idx =>
    rcases hE.2 with ⟨hx, -⟩ | ⟨hx, hC, hl, hin, hnm, hret⟩
    · have hz1 : (if x = 0 then _ else _) = _ := hz
      rw [if_pos hx] at hz1
      obtain ⟨a, r0, rfl, hz2⟩ := s1r_ok hz1
      obtain ⟨-, hz3⟩ := if_ok hz2
      cases hz3
    · have hz1 : (if x = 0 then _ else _) = _ := hz
      rw [if_neg hx] at hz1
      cases hd : st.drop y with
      | nil => rw [hd] at hz1; cases hz1
      | cons v0 r0 =>
        rw [hd] at hz1
        cases v0 with
        | ref b =>
          cases hz1
          have hpc : nx = pc + 3 := hE.1.2
          subst hpc
          intro lsA H locs hL hR hS hZ
          obtain ⟨g1, g2⟩ := drop_ref hd pre base ρ
          have hMet := met_of (l := l) hC hw hB
          have hgood := good_cons hG hC
          rw [hret] at hMet hgood
          have hPS : PreS s H (mPc D cl dA pre base ρ tyL NW G (.ref b :: (st.take y).reverse) h) (.ref (mad pre base b) :: ((st.take y).reverse).map (emv pre base ρ)) := ⟨mPc_blind hNW, fun U hU hW => ⟨rfl, by rw [hU]; exact hR, mFx_on hNW hF hS hU hW⟩⟩
          rcases hl with hl | ⟨host, hl⟩
          · exact cl_go (va_runI (b := mad pre base b) (As := ((st.take y).reverse).map (emv pre base ρ)) (rest := r.map (emv pre base ρ)) hfix hMet ⟨callB_of y hts hgood rfl rfl rfl (hts _ hC.2.1) (hts _ hl) ⟨hC.2.2.2.1.1, hC.2.2.2.1.2, hC.2.2.2.2⟩ hroom, hnm, hts _ hin⟩ hPS rfl g2 hL.1 g1 (hmon _ _) hE.1.1 ⟨hck, hcn⟩) hL hS hZ kk
          · exact cl_go (va_runIN (host := host) (b := mad pre base b) (As := ((st.take y).reverse).map (emv pre base ρ)) (rest := r.map (emv pre base ρ)) hfix hMet ⟨va_cnB y hts hgood rfl rfl rfl (hF.2.2.2.1 _ hl) (hts _ hC.2.1) ⟨hC.2.2.2.1.1, hC.2.2.2.1.2, hC.2.2.2.2⟩ hroom, hnm, hts _ hin⟩ hPS rfl g2 hL.1 g1 (hmon _ _) hE.1.1 ⟨hck, hcn⟩) hL hS hZ kk
        | _ => cases hz1
  | invokestatic idx =>
    rcases hE.2 with ⟨hx, -⟩ | ⟨hx, hC, hl, hstt⟩
    · have hz1 : (if x = 9000 then _ else _) = _ := hz
      rw [if_pos hx] at hz1
      obtain ⟨a, b, r0, rfl, hz2⟩ := s2i_ok hz1
      obtain ⟨-, hz3⟩ := if_ok hz2
      cases hz3
    · have hz1 : (if x = 9000 then _ else _) = _ := hz
      rw [if_neg hx] at hz1
      obtain ⟨hlen, hz2⟩ := if_ok hz1
      cases hz2
      have hpc : nx = pc + 3 := hE.1.2
      subst hpc
      intro lsA H locs hL hR hS hZ
      have g1 : st.map (emv pre base ρ) = (((st.take y).reverse).map (emv pre base ρ)).reverse ++ (st.drop y).map (emv pre base ρ) := by
        rw [List.map_reverse, List.reverse_reverse, ← List.map_append, List.take_append_drop]
      have g2 : (((st.take y).reverse).map (emv pre base ρ)).length = y := by
        rw [List.length_map, List.length_reverse, List.length_take]
        omega
      have hPS : PreS s H (mPc D cl dA pre base ρ tyL NW G ((st.take y).reverse) h) (((st.take y).reverse).map (emv pre base ρ)) := ⟨mPc_blind hNW, fun U hU hW => ⟨rfl, by rw [hU]; exact hR, mFx_on hNW hF hS hU hW⟩⟩
      have hgood := good_cons hG hC
      rcases hl with hl | ⟨host, hl⟩
      · exact cl_go (va_runS (As := ((st.take y).reverse).map (emv pre base ρ)) (rest := (st.drop y).map (emv pre base ρ)) hfix (met_of hC hw hB) ⟨callB_of y hts hgood rfl rfl rfl (hts _ hC.2.1) (hts _ hl) ⟨hC.2.2.2.1.1, hC.2.2.2.1.2, hC.2.2.2.2⟩ hroom, hts _ hstt⟩ hPS rfl g2 hL.1 g1 (hmon _ _) hE.1.1 ⟨hck, hcn⟩) hL hS hZ kk
      · exact cl_go (va_runSN (host := host) (As := ((st.take y).reverse).map (emv pre base ρ)) (rest := (st.drop y).map (emv pre base ρ)) hfix (met_of hC hw hB) ⟨va_cnB y hts hgood rfl rfl rfl (hF.2.2.2.1 _ hl) (hts _ hC.2.1) ⟨hC.2.2.2.1.1, hC.2.2.2.1.2, hC.2.2.2.2⟩ hroom, hts _ hstt, trivial⟩ hPS rfl g2 hL.1 g1 (hmon _ _) hE.1.1 ⟨hck, hcn⟩) hL hS hZ kk
  | _ => first | exact absurd (show (0 : Nat) = 3 from hk) (by decide) | exact absurd (show (1 : Nat) = 3 from hk) (by decide) | exact absurd (show (2 : Nat) = 3 from hk) (by decide) | exact absurd (show (4 : Nat) = 3 from hk) (by decide)
theorem stp_no {M pc nx x y : Nat} {i : Instr} {ls : ML} {st : List Value} {h : MH} {w : Option Value} (hk : ikd i = 3) : ¬ stepI iv G M pc i nx x y ls st h = some (.inr (.inr (.inl w))) := by
  intro hz
  cases i <;> first
    | (exact absurd (show (0 : Nat) = 3 from hk) (by decide)) | (exact absurd (show (1 : Nat) = 3 from hk) (by decide)) | (exact absurd (show (2 : Nat) = 3 from hk) (by decide)) | (exact absurd (show (4 : Nat) = 3 from hk) (by decide))
    | (simp only [stepI, okk, s2i, s1i, s1r, s1n, s1] at hz
       repeat' split at hz
       all_goals (cases hz; done))
theorem stp_no2 {M pc nx x y : Nat} {i : Instr} {ls : ML} {st : List Value} {h : MH} {w : List (CD × Nat) × ML × List Value} (hk : ikd i = 3) : ¬ stepI iv G M pc i nx x y ls st h = some (.inr (.inr (.inr w))) := by
  intro hz
  cases i <;> first
    | (exact absurd (show (0 : Nat) = 3 from hk) (by decide)) | (exact absurd (show (1 : Nat) = 3 from hk) (by decide)) | (exact absurd (show (2 : Nat) = 3 from hk) (by decide)) | (exact absurd (show (4 : Nat) = 3 from hk) (by decide))
    | (simp only [stepI, okk, s2i, s1i, s1r, s1n, s1] at hz
       repeat' split at hz
       all_goals (cases hz; done))
/-- a sign of a text -/
theorem so_charAt {M pc nx x y d K N cells slots idx : Nat} {ls : ML} {st : List Value} {h : MH} {z : Nat × ML × List Value × MH × Nat × Nat} (hG : ∀ w ∈ Ts, goodWord w = true)
    (X : mCx p s m args c D cl dA pre base ρ tyL Ts G (YB M).2 (YB M).1.cls (G.2.1 M)) (hF : mFx D cl dA pre base ρ tyL NW G s) (hd : decode (YB M).2 pc = .ok (.invokevirtual idx, 3)) (hnx : nx = pc + 3) (hx : x = 9001) (hl : Cond.methodLink (YB M).1.cls idx yCA ∈ Ts) (hw : ∀ w ∈ strL, w ∈ Ts) (hc : cells + z.2.2.2.2.1 ≤ K) (hn : slots + z.2.2.2.2.2 ≤ N)
    (hz : stepI iv G M pc (.invokevirtual idx) nx x y ls st h = some (.inl z))
    (kk : mGo p l e (rmOf d K N) s m args below meth c Q D cl dA pre base ρ (G.2.1 M) z.1 z.2.1 z.2.2.1 z.2.2.2.1 (cells + z.2.2.2.2.1) (slots + z.2.2.2.2.2)) :
    mGo p l e (rmOf d K N) s m args below meth c Q D cl dA pre base ρ (G.2.1 M) pc ls st h cells slots := by
  have hz1 : (if x = 9001 then _ else _) = _ := hz
  rw [if_pos hx] at hz1
  obtain ⟨i, r1, rfl, hz2⟩ := s1i_ok hz1
  obtain ⟨a, r, rfl, hz3⟩ := s1r_ok hz2
  clear hz hz1 hz2
  obtain ⟨⟨h8, h9⟩, hz4⟩ := if_ok hz3
  cases hg : G.2.2.1 a with
  | none => rw [hg] at hz4; cases hz4
  | some w =>
    obtain ⟨n, f⟩ := w
    rw [hg] at hz4
    obtain ⟨hv, hz5⟩ := if_ok hz4
    simp only [Bool.and_eq_true, decide_eq_true_eq] at hv
    cases okk_ok hz5
    subst hnx
    intro lsA H locs hL hR hS hZ
    obtain ⟨-, -, -, -, -, f6, f7, -, f9⟩ := hF
    obtain ⟨g1, g2, g3⟩ := f9 a n f hg h8 h9
    have hts := X.2.2.2.2.1
    have hfix : CallFix p m c (YB M).2 (G.2.1 M) s args Ts (YB M).1.cls := ⟨X.1, X.2.1, X.2.2.1, X.2.2.2.1, hts⟩
    have hm : mad pre base a = pre a := by unfold mad; rw [if_pos (Nat.lt_trans h9 (by decide))]
    have hmon : 2 * (F0 m pc lsA ((Value.int i :: Value.ref a :: r).map (emv pre base ρ))).monitorRoom + ((r.map (emv pre base ρ)).map fun v => v.category).sum ≤ 8 := by
      rw [mwid_map]
      show 2 * 0 + _ ≤ 8
      omega
    have hroom : (rmS 3).frames + 1 ≤ (rmOf d K N).frames ∧ 8 + (2 + 11) + (rmS 3).locals ≤ (rmOf d K N).locals := by
      unfold rmS rmOf
      constructor
      · simp only; omega
      · simp only; omega
    have hrecv : ∃ cellB : Cell, H[pre a]? = some cellB ∧ cellB.vm.isStatics = false ∧ s.vm.findClass "java/lang/String" = some cellB.cls := by
      obtain ⟨qv, t1, -⟩ := g1
      obtain ⟨cell, k1, k2, k3, -⟩ := t1.kept hS.2.1
      exact ⟨cell, k1, k2, k3⟩
    have hH : ∀ U : State, U.heap = H → ∀ q : Nat, q < s.heap.size → ¬ base ≤ q → U.heap[q]? = s.heap[q]? := fun U hU q q1 q2 => by rw [hU]; exact hS.2.1 q q1 q2
    refine W.callX (W.runV (y := yCA) (C := "java/lang/String") (b := pre a) (bytes := bCA) (maxL := 2) (ret := some .char) (n := 1) (As := [.int i]) (rest := r.map (emv pre base ρ)) hfix (c_CA l hG hw base (pre a) n f i (vin_ok hv.1) g2) ⟨callB_of 1 hts (goodS hG (strL_at hw 20 rfl)) rfl rfl rfl (hts _ (strL_at hw 7 rfl)) (hts _ hl) ⟨by decide, by decide, by decide +kernel⟩ hroom, hts _ (strL_at hw 21 rfl), hts _ (strL_at hw 22 rfl)⟩ ⟨fun a U g mk h => ⟨h.1, txF_on (U := U.calling g mk a) h.2.1 (Vm.Alike.refl U.vm) (fun _ _ _ => rfl), csF_on (U := U.calling g mk a) h.2.2.1 (Vm.Alike.refl U.vm) (fun _ _ _ => rfl), zqS_on (U := U.calling g mk a) h.2.2.2 (Vm.Alike.refl U.vm) (fun _ _ _ => rfl)⟩, hrecv, fun U hU hW => ⟨rfl, txF_on g1 hW.alike (hH U hU), csF_on f7 hW.alike (hH U hU), zqS_on f6 hW.alike (hH U hU)⟩⟩ rfl rfl hL.1 (by rw [List.map_cons, List.map_cons, show emv pre base ρ (.ref a) = .ref (pre a) from congrArg Value.ref hm]; rfl) hmon hd ⟨hc, hn⟩) (fun q h => h.elim) (fun v st₀ t k1 k2 => ?_)
    obtain ⟨k3, k4⟩ := k2
    cases k3
    rw [k4, k1]
    have hlt : i.toNatClampNeg < n := Nat.not_le.mp fun q => vin_ok hv.1 (Or.inr q)
    rw [g3 _ hlt]
    exact kk lsA H locs hL hR hS hZ
theorem so_length {M pc nx x y d K N cells slots idx : Nat} {ls : ML} {st : List Value} {h : MH} {z : Nat × ML × List Value × MH × Nat × Nat} (hG : ∀ w ∈ Ts, goodWord w = true)
    (X : mCx p s m args c D cl dA pre base ρ tyL Ts G (YB M).2 (YB M).1.cls (G.2.1 M)) (hF : mFx D cl dA pre base ρ tyL NW G s) (hd : decode (YB M).2 pc = .ok (.invokevirtual idx, 3)) (hnx : nx = pc + 3) (hx : x = 9002) (hl : Cond.methodLink (YB M).1.cls idx yLN ∈ Ts) (hw : ∀ w ∈ strL, w ∈ Ts) (hc : cells + z.2.2.2.2.1 ≤ K) (hn : slots + z.2.2.2.2.2 ≤ N)
    (hz : stepI iv G M pc (.invokevirtual idx) nx x y ls st h = some (.inl z))
    (kk : mGo p l e (rmOf d K N) s m args below meth c Q D cl dA pre base ρ (G.2.1 M) z.1 z.2.1 z.2.2.1 z.2.2.2.1 (cells + z.2.2.2.2.1) (slots + z.2.2.2.2.2)) :
    mGo p l e (rmOf d K N) s m args below meth c Q D cl dA pre base ρ (G.2.1 M) pc ls st h cells slots := by
  have hz1 : (if x = 9001 then _ else if x = 9002 then _ else _) = _ := hz
  rw [if_neg (by omega), if_pos hx] at hz1
  obtain ⟨a, r, rfl, hz3⟩ := s1r_ok hz1
  clear hz hz1
  obtain ⟨⟨h8, h9⟩, hz4⟩ := if_ok hz3
  cases hg : G.2.2.1 a with
  | none => rw [hg] at hz4; cases hz4
  | some w =>
    obtain ⟨n, f⟩ := w
    rw [hg] at hz4
    obtain ⟨hv, hz5⟩ := if_ok hz4
    cases okk_ok hz5
    subst hnx
    intro lsA H locs hL hR hS hZ
    obtain ⟨-, -, -, -, -, f6, f7, -, f9⟩ := hF
    obtain ⟨g1, g2, g3⟩ := f9 a n f hg h8 h9
    have hts := X.2.2.2.2.1
    have hfix : CallFix p m c (YB M).2 (G.2.1 M) s args Ts (YB M).1.cls := ⟨X.1, X.2.1, X.2.2.1, X.2.2.2.1, hts⟩
    have hm : mad pre base a = pre a := by unfold mad; rw [if_pos (Nat.lt_trans h9 (by decide))]
    have hmon : 2 * (F0 m pc lsA ((Value.ref a :: r).map (emv pre base ρ))).monitorRoom + ((r.map (emv pre base ρ)).map fun v => v.category).sum ≤ 8 := by
      rw [mwid_map]
      show 2 * 0 + _ ≤ 8
      omega
    have hroom : (rmS 1).frames + 1 ≤ (rmOf d K N).frames ∧ 8 + (1 + 11) + (rmS 1).locals ≤ (rmOf d K N).locals := by
      unfold rmS rmOf
      constructor
      · simp only; omega
      · simp only; omega
    have hrecv : ∃ cellB : Cell, H[pre a]? = some cellB ∧ cellB.vm.isStatics = false ∧ s.vm.findClass "java/lang/String" = some cellB.cls := by
      obtain ⟨qv, t1, -⟩ := g1
      obtain ⟨cell, k1, k2, k3, -⟩ := t1.kept hS.2.1
      exact ⟨cell, k1, k2, k3⟩
    have hH : ∀ U : State, U.heap = H → ∀ q : Nat, q < s.heap.size → ¬ base ≤ q → U.heap[q]? = s.heap[q]? := fun U hU q q1 q2 => by rw [hU]; exact hS.2.1 q q1 q2
    refine W.callX (W.runV (y := yLN) (C := "java/lang/String") (b := pre a) (bytes := bLN) (maxL := 1) (ret := some .int) (n := 0) (As := []) (rest := r.map (emv pre base ρ)) hfix (c_LN l hG hw base (pre a) n f) ⟨callB_of 0 hts (goodS hG (strL_at hw 27 rfl)) rfl rfl rfl (hts _ (strL_at hw 7 rfl)) (hts _ hl) ⟨by decide, by decide, by decide +kernel⟩ hroom, hts _ (strL_at hw 28 rfl), hts _ (strL_at hw 29 rfl)⟩ ⟨fun a U g mk h => ⟨h.1, txF_on (U := U.calling g mk a) h.2.1 (Vm.Alike.refl U.vm) (fun _ _ _ => rfl), csF_on (U := U.calling g mk a) h.2.2 (Vm.Alike.refl U.vm) (fun _ _ _ => rfl)⟩, hrecv, fun U hU hW => ⟨rfl, txF_on g1 hW.alike (hH U hU), csF_on f7 hW.alike (hH U hU)⟩⟩ rfl rfl hL.1 (by rw [List.map_cons, show emv pre base ρ (.ref a) = .ref (pre a) from congrArg Value.ref hm]; rfl) hmon hd ⟨hc, hn⟩) (fun q h => h.elim) (fun v st₀ t k1 k2 => ?_)
    obtain ⟨k3, k4⟩ := k2
    cases k3
    rw [k4, k1]
    exact kk lsA H locs hL hR hS hZ
/-- the calls that the small machine makes at one step: Object's constructor, Math.min, a sign of a text -/
theorem stp_sp {M pc nx x y d K N cells slots : Nat} {i : Instr} {ls : ML} {st : List Value} {h : MH} {z : Nat × ML × List Value × MH × Nat × Nat} (hG : ∀ w ∈ Ts, goodWord w = true)
    (X : mCx p s m args c D cl dA pre base ρ tyL Ts G (YB M).2 (YB M).1.cls (G.2.1 M)) (hF : mFx D cl dA pre base ρ tyL NW G s)
    (hE : EOK Ts NW cl tyL G YB M pc i nx x y) (hk : ikd i = 3) (hc : cells + z.2.2.2.2.1 ≤ K) (hn : slots + z.2.2.2.2.2 ≤ N) (hz : stepI iv G M pc i nx x y ls st h = some (.inl z))
    (kk : mGo p l e (rmOf d K N) s m args below meth c Q D cl dA pre base ρ (G.2.1 M) z.1 z.2.1 z.2.2.1 z.2.2.2.1 (cells + z.2.2.2.2.1) (slots + z.2.2.2.2.2)) :
    mGo p l e (rmOf d K N) s m args below meth c Q D cl dA pre base ρ (G.2.1 M) pc ls st h cells slots := by
  have hRf : 1 ≤ (rmOf d K N).frames := by unfold rmOf; simp only; omega
  have hRl : 21 ≤ (rmOf d K N).locals := by unfold rmOf; simp only; omega
  cases i with
  | invokevirtual idx =>
    rcases hE.2 with ⟨hx, hl, hw⟩ | ⟨hx, hl, hw⟩ | ⟨n1', n2', -⟩
    · exact so_charAt hG X hF hE.1.1 hE.1.2 hx hl hw hc hn hz kk
    · exact so_length hG X hF hE.1.1 hE.1.2 hx hl hw hc hn hz kk
    have hz1 : (if x = 9001 then _ else if x = 9002 then _ else _) = _ := hz
    rw [if_neg n1', if_neg n2'] at hz1
    split at hz1
    · split at hz1
      · obtain ⟨-, hz2⟩ := if_ok hz1
        cases hz2
      · cases hz1
    · cases hz1
  | invokespecial idx =>
    rcases hE.2 with ⟨hx, h1, h2, h3⟩ | ⟨hx, -⟩
    · exact so_objInit X hE.1.1 hE.1.2 hx h1 h2 h3 hRf (Nat.le_of_succ_le hRl) hz kk
    · have hz1 : (if x = 0 then _ else _) = _ := hz
      rw [if_neg hx] at hz1
      split at hz1
      · cases hz1
      · cases hz1
  | invokestatic idx =>
    rcases hE.2 with ⟨hx, h1, h2, h3, h4⟩ | ⟨hx, -⟩
    · exact so_mmin X hE.1.1 hE.1.2 hx h1 h2 h3 h4 hRf hRl hc hn hz kk
    · have hz1 : (if x = 9000 then _ else _) = _ := hz
      rw [if_neg hx] at hz1
      obtain ⟨-, hz2⟩ := if_ok hz1
      cases hz2
  | _ => first | exact absurd (show (0 : Nat) = 3 from hk) (by decide) | exact absurd (show (1 : Nat) = 3 from hk) (by decide) | exact absurd (show (2 : Nat) = 3 from hk) (by decide) | exact absurd (show (4 : Nat) = 3 from hk) (by decide)
/-- cells and slots are only made -/
theorem mrun_mono {iv : List (Int × Int)} {G : GI} : ∀ (f d M pc : Nat) (ls : ML) (st : List Value) (h : MH) (k n : Nat) (v : Option Value) (h' : MH) (k' n' : Nat), mrun iv G f d M pc ls st h k n = some (v, h', k', n') → k ≤ k' ∧ n ≤ n' := by
  intro f
  induction f with
  | zero => intro d M pc ls st h k n v h' k' n' hr; rw [mrun_0] at hr; cases hr
  | succ f ih =>
    intro d M pc ls st h k n v h' k' n' hr
    rw [mrun_s] at hr
    cases hst : mstep iv G M pc ls st h with
    | none => rw [hst] at hr; cases hr
    | some z =>
      rw [hst] at hr
      rcases z with ⟨pc', ls', st', h1, dk, dn⟩ | ⟨y, as, r, pc'⟩ | w | ⟨alts, ls', st'⟩
      · have := ih _ _ _ _ _ _ _ _ _ _ _ _ hr
        omega
      · obtain ⟨-, hr⟩ := if_ok hr
        cases d with
        | zero => cases hr
        | succ d =>
          simp only at hr
          cases hcal : mrun iv G f d y 0 (ment 0 as) [] h 0 0 with
          | none => rw [hcal] at hr; cases hr
          | some q =>
            obtain ⟨v1, h1, k1, n1⟩ := q
            rw [hcal] at hr
            have := ih _ _ _ _ _ _ _ _ _ _ _ _ hr
            omega
      · cases hr
        exact ⟨Nat.le_refl _, Nat.le_refl _⟩
      · simp only at hr
        cases hfind : alts.find? (fun q => ent iv q.1) with
        | none => rw [hfind] at hr; cases hr
        | some q =>
          rw [hfind] at hr
          exact ih _ _ _ _ _ _ _ _ _ _ _ _ hr
/-- A RUN OF THE SMALL MACHINE IS A RUN OF THE MACHINE. -/
theorem mrun_ok (hI : ivP ρ iv) (hTL : mTL tyL) (hNW : ∀ w ∈ NW, nst w) (hG : ∀ w ∈ Ts, goodWord w = true) (hE : ∀ (M pc : Nat) (i : Instr) (nx x y : Nat), G.1 M pc = some (i, nx, x, y) → ¬ ikd i = 4 → EOK Ts NW cl tyL G YB M pc i nx x y) :
    ∀ (f d M pc : Nat) (ls : ML) (st : List Value) (h : MH) (k n : Nat) (v : Option Value) (h' : MH) (k' n' : Nat), mrun iv G f d M pc ls st h k n = some (v, h', k', n') → mBody l D cl dA pre base ρ tyL Ts NW G YB d M pc ls st h k n v h' k' n' := by
  intro f
  induction f with
  | zero => intro d M pc ls st h k n v h' k' n' hr; rw [mrun_0] at hr; cases hr
  | succ f ih =>
    intro d M pc ls st h k n v h' k' n' hr
    rw [mrun_s] at hr
    cases hst : mstep iv G M pc ls st h with
    | none => rw [hst] at hr; cases hr
    | some z =>
      rw [hst] at hr
      unfold mstep at hst
      cases he : G.1 M pc with
      | none => rw [he] at hst; cases hst
      | some en =>
        obtain ⟨i, nx, x, y⟩ := en
        rw [he] at hst
        have hst : stepI iv G M pc i nx x y ls st h = some z := hst
        have hE1 := hE M pc i nx x y he
        by_cases hk4 : ikd i = 4
        · exact (no_only hk4 hst).elim
        have hE1 := hE1 hk4
        intro p e s m args below meth c X hF hlocks hret hname
        have hkd : ikd i = 0 ∨ ikd i = 1 ∨ ikd i = 2 ∨ ikd i = 3 ∨ ikd i = 4 := by cases i <;> first | exact Or.inl rfl | exact Or.inr (Or.inl rfl) | exact Or.inr (Or.inr (Or.inl rfl)) | exact Or.inr (Or.inr (Or.inr (Or.inl rfl))) | exact Or.inr (Or.inr (Or.inr (Or.inr rfl)))
        have onStep : ∀ q : Nat × ML × List Value × MH × Nat × Nat, z = .inl q → (∀ (kk : mGo p l e (rmOf d k' n') s m args below meth c (MQ below (mQc D cl dA pre base ρ v h' k') args s k' n' (fun q => base ≤ q)) D cl dA pre base ρ (G.2.1 M) q.1 q.2.1 q.2.2.1 q.2.2.2.1 (k + q.2.2.2.2.1) (n + q.2.2.2.2.2)), k + q.2.2.2.2.1 ≤ k' → n + q.2.2.2.2.2 ≤ n' → mGo p l e (rmOf d k' n') s m args below meth c (MQ below (mQc D cl dA pre base ρ v h' k') args s k' n' (fun q => base ≤ q)) D cl dA pre base ρ (G.2.1 M) pc ls st h k n) → mGo p l e (rmOf d k' n') s m args below meth c (MQ below (mQc D cl dA pre base ρ v h' k') args s k' n' (fun q => base ≤ q)) D cl dA pre base ρ (G.2.1 M) pc ls st h k n := by
          intro q hq hgo
          subst hq
          obtain ⟨pc', ls', st', h1, dk, dn⟩ := q
          have hm := mrun_mono _ _ _ _ _ _ _ _ _ _ _ _ _ hr
          exact hgo (ih _ _ _ _ _ _ _ _ _ _ _ _ hr p e s m args below meth c X hF hlocks hret hname) hm.1 hm.2
        rcases hkd with hk | hk | hk | hk | hk
        · obtain ⟨q, hq⟩ := on_only hk hst
          refine onStep q hq fun kk hc hn => ?_
          rw [hq] at hst
          exact stp_on X hI hF hTL hname hE1 hk hc hn hst kk
        · obtain ⟨alts, ls', st', hq⟩ := br_only hk hst
          subst hq
          simp only at hr
          cases hfind : alts.find? (fun q => ent iv q.1) with
          | none => rw [hfind] at hr; cases hr
          | some q =>
            obtain ⟨b, pc'⟩ := q
            rw [hfind] at hr
            have h1 := List.mem_of_find?_eq_some hfind
            have h2 : ent iv b = true := by simpa using List.find?_some hfind
            exact stp_br X hE1 hk hst h1 (ent_ok hI h2) (ih _ _ _ _ _ _ _ _ _ _ _ _ hr p e s m args below meth c X hF hlocks hret hname)
        · obtain ⟨w, hq⟩ := rt_only hk hst
          subst hq
          cases hr
          exact stp_rt X hlocks hret hE1 hk hst
        · rcases z with q | ⟨cy, as, r, pc'⟩ | w | ⟨alts, ls', st'⟩
          · refine onStep q rfl fun kk hc hn => ?_
            exact stp_sp hG X hF hE1 hk hc hn hst kk
          · obtain ⟨hchk, hr⟩ := if_ok hr
            simp only [Bool.and_eq_true, decide_eq_true_eq] at hchk
            cases d with
            | zero => cases hr
            | succ d =>
              simp only at hr
              cases hcal : mrun iv G f d cy 0 (ment 0 as) [] h 0 0 with
              | none => rw [hcal] at hr; cases hr
              | some q =>
                obtain ⟨v1, h1, k1, n1⟩ := q
                rw [hcal] at hr
                have hm := mrun_mono _ _ _ _ _ _ _ _ _ _ _ _ _ hr
                exact stp_call hNW hG X hF hE1 hk hst hchk.1 hchk.2.1 hchk.2.2 (ih _ _ _ _ _ _ _ _ _ _ _ _ hcal) hm.1 hm.2 (ih _ _ _ _ _ _ _ _ _ _ _ _ hr p e s m args below meth c X hF hlocks hret hname)
          · exact absurd hst (stp_no hk)
          · exact absurd hst (stp_no2 hk)
        · exact (no_only hk hst).elim
end RUN
end
