section
/-! A small machine of our own: what a method of the claim does to cells told by numbers, as a function that can be reckoned. -/
abbrev MA : Type := (Nat → Int32) ⊕ (Nat → Option Nat)
/-- a cell: an array (which type, how long, what it holds), or an object (which class, its fields) -/
abbrev ME : Type := (Nat × Nat × MA) ⊕ (Nat × List Value)
/-- how many numbers are given; the cells, the newest first (numbers below 64 are cells that were there, read only: rows of ints below 8, texts from 8 on) -/
abbrev MH : Type := Nat × List ME
abbrev ML : Type := List (Nat × Value)
/-- an instruction, the place behind it, two numbers that a table knows of it -/
abbrev EN : Type := Instr × Nat × Nat × Nat
def mget (h : MH) (k : Nat) : Option ME := if k < h.1 then h.2[h.1 - 1 - k]? else none
def mput (h : MH) (k : Nat) (e : ME) : MH := (h.1, h.2.set (h.1 - 1 - k) e)
def mpush (h : MH) (e : ME) : MH := (h.1 + 1, e :: h.2)
def lkl (ls : ML) (i : Nat) : Option Value := (ls.find? (fun q => q.1 == i)).map (fun q => q.2)
def sto1 (ls : ML) (i : Nat) (v : Value) : ML := (i, v) :: ls.filter (fun q => !(q.1 == i) && !(q.1 + 1 == i && q.2.category == 2))
def sto2 (ls : ML) (i : Nat) (v : Value) : ML := (i, v) :: ls.filter (fun q => !(q.1 == i) && (!(q.1 == i + 1) && !(q.1 + 1 == i && q.2.category == 2)))
/-- on: (next place, locals, stack, heap, cells made, slots made); a call: (callee, arguments, the stack below, next place); an answer; a branch: (conditions and places, locals, stack) -/
abbrev ST : Type := (Nat × ML × List Value × MH × Nat × Nat) ⊕ ((Nat × List Value × List Value × Nat) ⊕ (Option Value ⊕ (List (Bool × Nat) × ML × List Value)))
def okk (nx : Nat) (ls : ML) (st : List Value) (h : MH) : Option ST := some (.inl (nx, ls, st, h, 0, 0))
def brr (c : Bool) (x nx : Nat) (ls : ML) (st : List Value) : Option ST := some (.inr (.inr (.inr ([(c, x), (!c, nx)], ls, st))))
/-- the tables: entries, numbers of locals, arrays that were there, blank fields, types of fields, answers' types, methods' classes -/
abbrev GI : Type := (Nat → Nat → Option EN) × (Nat → Nat) × (Nat → Option (Nat × (Nat → Int32))) × (Nat → List Value) × (Nat → Nat → FieldType) × (Nat → Option FieldType) × (Nat → Nat)
def s1 (st : List Value) (k : Value → List Value → Option ST) : Option ST := match st with
  | v :: r => k v r
  | [] => none
def s1i (st : List Value) (k : Int32 → List Value → Option ST) : Option ST := s1 st fun v r => match v with
  | .int a => k a r
  | _ => none
def s1l (st : List Value) (k : Int64 → List Value → Option ST) : Option ST := s1 st fun v r => match v with
  | .long a => k a r
  | _ => none
def s1r (st : List Value) (k : Nat → List Value → Option ST) : Option ST := s1 st fun v r => match v with
  | .ref a => k a r
  | _ => none
def s2i (st : List Value) (k : Int32 → Int32 → List Value → Option ST) : Option ST := s1i st fun b r => s1i r fun a r => k a b r
def s2l (st : List Value) (k : Int64 → Int64 → List Value → Option ST) : Option ST := s1l st fun b r => s1l r fun a r => k a b r
def rfo (v : Value) : Option (Option Nat) := match v with
  | .ref a => some (some a)
  | .null => some none
  | _ => none
def icmpB (c : Jvm.ClassFile.Cond) (a b : Int32) : Bool := match c with
  | .eq => decide (a = b)
  | .ne => decide (¬ a = b)
  | .lt => decide (a < b)
  | .ge => decide (b ≤ a)
  | .gt => decide (b < a)
  | .le => decide (a ≤ b)
def ifB (c : Jvm.ClassFile.Cond) (a : Int32) : Bool := match c with
  | .eq => decide (a = 0)
  | .ne => decide (¬ a = 0)
  | .lt => decide (a < 0)
  | .ge => decide (0 ≤ a)
  | .gt => decide (0 < a)
  | .le => decide (a ≤ 0)
def vin (i : Int32) (n : Nat) : Bool := decide (0 ≤ i) && decide (i.toNatClampNeg < n)
def cat1 (v : Value) : Bool := match v with
  | .int _ | .ref _ | .null => true
  | _ => false
/-- an int row that can be read: its length and what it holds -/
def irow (G : GI) (h : MH) (a t : Nat) : Option (Nat × (Nat → Int32)) := if a < 8 then (if t = 0 then G.2.2.1 a else none) else match mget h a with
  | some (.inl (ti, n, .inl f)) => if ti = t then some (n, f) else none
  | _ => none
def stload (ls : ML) (i nx : Nat) (st : List Value) (h : MH) (ok : Value → Bool) : Option ST := match lkl ls i with
  | some v => if ok v then okk nx ls (v :: st) h else none
  | none => none
def isI (v : Value) : Bool := match v with
  | .int _ => true
  | _ => false
def isL (v : Value) : Bool := match v with
  | .long _ => true
  | _ => false
def isR (v : Value) : Bool := match v with
  | .ref _ | .null => true
  | _ => false
def ststore1 (G : GI) (M : Nat) (ls : ML) (i nx : Nat) (st : List Value) (h : MH) (ok : Value → Bool) : Option ST := s1 st fun v r => if ok v && decide (i < G.2.1 M) then okk nx (sto1 ls i v) r h else none
def ststore2 (G : GI) (M : Nat) (ls : ML) (i nx : Nat) (st : List Value) (h : MH) : Option ST := s1 st fun v r => if isL v && decide (i + 1 < G.2.1 M) then okk nx (sto2 ls i v) r h else none
/-- may a value stand in a field, a cell, an answer of a type -/
def fitB (ty : FieldType) (v : Value) : Bool := match ty with
  | .int => isI v
  | .boolean => match v with
    | .int b => decide (b = 0) || decide (b = 1)
    | _ => false
  | .long => isL v
  | .object _ => isR v
  | .array _ => isR v
  | _ => false
def swAlts (v lo : Int) (offs : List Nat) : List (Bool × Nat) := match offs with
  | [] => []
  | o :: r => (decide (v = lo), o) :: swAlts v (lo + 1) r
def big (a : Option Nat) : Bool := match a with
  | some z => decide (64 ≤ z)
  | none => true
def mwid (vs : List Value) : Nat := (vs.map fun v => v.category).sum
def natI (n : Int) : Nat := n.toNat
/-- one instruction; x, y by its kind: a jump's goal; a field's class and place; a class; a row's type; a callee and how many arguments it takes; a constant -/
def stepI (G : GI) (M pc : Nat) (i : Instr) (nx x y : Nat) (ls : ML) (st : List Value) (h : MH) : Option ST := match i with
  | .iconst n => okk nx ls (.int (Int32.ofInt n) :: st) h
  | .bipush n => okk nx ls (.int (Int8.ofInt n).toInt32 :: st) h
  | .sipush n => okk nx ls (.int (Int16.ofInt n).toInt32 :: st) h
  | .lconst n => okk nx ls (.long (Int64.ofNat (n : Nat)) :: st) h
  | .aconst_null => okk nx ls (.null :: st) h
  | .ldc _ => if y = 0 then okk nx ls (.int (Int32.ofNat x) :: st) h else okk nx ls (.ref x :: st) h
  | .ldc_w _ => okk nx ls (.int (Int32.ofNat x) :: st) h
  | .ldc2_w _ => okk nx ls (.long (Int64.ofNat x) :: st) h
  | .iload_n k => stload ls k nx st h isI
  | .iload k => stload ls k nx st h isI
  | .lload_n k => stload ls k nx st h isL
  | .lload k => stload ls k nx st h isL
  | .aload_n k => stload ls k nx st h isR
  | .aload k => stload ls k nx st h isR
  | .istore_n k => ststore1 G M ls k nx st h isI
  | .istore k => ststore1 G M ls k nx st h isI
  | .astore_n k => ststore1 G M ls k nx st h isR
  | .astore k => ststore1 G M ls k nx st h isR
  | .lstore_n k => ststore2 G M ls k nx st h
  | .lstore k => ststore2 G M ls k nx st h
  | .iinc k n => match lkl ls k with
    | some (.int a) => if k < G.2.1 M then okk nx (sto1 ls k (.int (a + Int32.ofInt n))) st h else none
    | _ => none
  | .iadd => s2i st fun a b r => okk nx ls (.int (a + b) :: r) h
  | .isub => s2i st fun a b r => okk nx ls (.int (a - b) :: r) h
  | .imul => s2i st fun a b r => okk nx ls (.int (a * b) :: r) h
  | .iand => s2i st fun a b r => okk nx ls (.int (a &&& b) :: r) h
  | .idiv => s2i st fun a b r => if b = 0 then none else okk nx ls (.int (a / b) :: r) h
  | .irem => s2i st fun a b r => if b = 0 then none else okk nx ls (.int (a - a / b * b) :: r) h
  | .ineg => s1i st fun a r => okk nx ls (.int (-a) :: r) h
  | .i2l => s1i st fun a r => okk nx ls (.long a.toInt64 :: r) h
  | .i2b => s1i st fun a r => okk nx ls (.int a.toInt8.toInt32 :: r) h
  | .l2i => s1l st fun a r => okk nx ls (.int a.toInt32 :: r) h
  | .ladd => s2l st fun a b r => okk nx ls (.long (a + b) :: r) h
  | .lmul => s2l st fun a b r => okk nx ls (.long (a * b) :: r) h
  | .ldiv => s2l st fun a b r => if b = 0 then none else okk nx ls (.long (a / b) :: r) h
  | .lrem => s2l st fun a b r => if b = 0 then none else okk nx ls (.long (a - a / b * b) :: r) h
  | .lneg => s1l st fun a r => okk nx ls (.long (-a) :: r) h
  | .lcmp => s2l st fun a b r => okk nx ls (.int (lg_cmp a b) :: r) h
  | .dup => s1 st fun v r => if cat1 v then okk nx ls (v :: v :: r) h else none
  | .pop => s1 st fun v r => if cat1 v then okk nx ls r h else none
  | .dup_x1 => s1 st fun v r => s1 r fun w r => if cat1 v && cat1 w then okk nx ls (v :: w :: v :: r) h else none
  | .dup2 => s1 st fun v r => s1 r fun w r => if cat1 v && cat1 w then okk nx ls (v :: w :: v :: w :: r) h else none
  | .goto _ => okk x ls st h
  | .ifCond c _ => s1i st fun a r => brr (ifB c a) x nx ls r
  | .if_icmp c _ => s2i st fun a b r => brr (icmpB c a b) x nx ls r
  | .if_acmp c _ => s1 st fun v r => s1 r fun w r => match rfo v, rfo w with
    | some a, some b => if big a && big b then okk (match c with
      | .eq => if b = a then x else nx
      | .ne => if b = a then nx else x) ls r h else none
    | _, _ => none
  | .ifnull _ => s1 st fun v r => match v with
    | .null => okk x ls r h
    | .ref _ => okk nx ls r h
    | _ => none
  | .ifnonnull _ => s1 st fun v r => match v with
    | .null => okk nx ls r h
    | .ref _ => okk x ls r h
    | _ => none
  | .tableswitch d lo hi offs => s1i st fun a r => some (.inr (.inr (.inr ((decide (a.toInt < lo ∨ hi < a.toInt), natI ((pc : Int) + d)) :: swAlts a.toInt lo (offs.toList.map fun o => natI ((pc : Int) + o)), ls, r))))
  | .getfield _ => s1r st fun a r => match mget h a with
    | some (.inr (ci, fs)) => if ci = x then (match fs[y]? with
      | some v => okk nx ls (v :: r) h
      | none => none) else none
    | _ => none
  | .putfield _ => s1 st fun v r => s1r r fun a r => match mget h a with
    | some (.inr (ci, fs)) => if ci = x && fitB (G.2.2.2.2.1 x y) v && decide (y < fs.length) then okk nx ls r (mput h a (.inr (ci, fs.set y v))) else none
    | _ => none
  | .getstatic _ => okk nx ls (.ref x :: st) h
  | .arraylength => s1r st fun a r => if a < 8 then (match G.2.2.1 a with
      | some (n, _) => okk nx ls (.int (Int32.ofNat n) :: r) h
      | none => none) else match mget h a with
    | some (.inl (ti, n, _)) => if ti < 8 then okk nx ls (.int (Int32.ofNat n) :: r) h else none
    | _ => none
  | .iaload => s1i st fun i r => s1r r fun a r => match irow G h a 0 with
    | some (n, f) => if vin i n then okk nx ls (.int (f i.toNatClampNeg) :: r) h else none
    | none => none
  | .baload => s1i st fun i r => s1r r fun a r => match irow G h a x with
    | some (n, f) => if vin i n then okk nx ls (.int (f i.toNatClampNeg) :: r) h else none
    | none => none
  | .aaload => s1i st fun i r => s1r r fun a r => match mget h a with
    | some (.inl (ti, n, .inr f)) => if vin i n && (decide (3 ≤ ti) && decide (ti < 8)) then okk nx ls (va_rf (f i.toNatClampNeg) :: r) h else none
    | _ => none
  | .iastore => s1i st fun v r => s1i r fun i r => s1r r fun a r => match mget h a with
    | some (.inl (ti, n, .inl f)) => if ti = 0 && vin i n then okk nx ls r (mput h a (.inl (ti, n, .inl (upd f i.toNatClampNeg v)))) else none
    | _ => none
  | .bastore => s1i st fun v r => s1i r fun i r => s1r r fun a r => match mget h a with
    | some (.inl (ti, n, .inl f)) => if ti = x && vin i n then (if x = 1 then okk nx ls r (mput h a (.inl (ti, n, .inl (upd f i.toNatClampNeg (vp_nar .byte v)))))
        else if x = 2 then okk nx ls r (mput h a (.inl (ti, n, .inl (upd f i.toNatClampNeg (vp_nar .boolean v))))) else none) else none
    | _ => none
  | .aastore => s1 st fun v r => s1i r fun i r => s1r r fun a r => match mget h a with
    | some (.inl (ti, n, .inr f)) => if vin i n && decide (ti = x) then (match v with
      | .null => okk nx ls r (mput h a (.inl (ti, n, .inr (va_up f i.toNatClampNeg none))))
      | .ref b => (match mget h b with
        | some (.inr (ci, _)) => if ci = y then okk nx ls r (mput h a (.inl (ti, n, .inr (va_up f i.toNatClampNeg (some b))))) else none
        | _ => none)
      | _ => none) else none
    | _ => none
  | .newarray _ => s1i st fun n r => if decide (0 ≤ n) && decide (n.toNatClampNeg ≤ 67108864) then some (.inl (nx, ls, .ref h.1 :: r, mpush h (.inl (x, n.toNatClampNeg, .inl (fun _ => 0))), 1, n.toNatClampNeg)) else none
  | .anewarray _ => s1i st fun n r => if decide (0 ≤ n) && decide (n.toNatClampNeg ≤ 67108864) then some (.inl (nx, ls, .ref h.1 :: r, mpush h (.inl (x, n.toNatClampNeg, .inr (fun _ => none))), 1, n.toNatClampNeg)) else none
  | .new _ => some (.inl (nx, ls, .ref h.1 :: st, mpush h (.inr (x, G.2.2.2.1 x)), 1, (G.2.2.2.1 x).length))
  | .invokespecial _ => if x = 0 then (s1r st fun _ r => if mwid r ≤ 8 then okk nx ls r h else none) else
      (match st.drop y with
      | .ref b :: r => some (.inr (.inl (x, .ref b :: (st.take y).reverse, r, nx)))
      | _ => none)
  | .invokevirtual _ => if x = 9001 then (s1i st fun i r => s1r r fun a r => if 8 ≤ a ∧ a < 64 then (match G.2.2.1 a with
      | some (n, f) => if vin i n then okk nx ls (.int (f i.toNatClampNeg) :: r) h else none
      | none => none) else none)
    else if x = 9002 then (s1r st fun a r => if 8 ≤ a ∧ a < 64 then (match G.2.2.1 a with
      | some (n, _) => okk nx ls (.int (Int32.ofNat n) :: r) h
      | none => none) else none)
    else match st.drop y with
      | .ref b :: r => (match mget h b with
        | some (.inr (ci, _)) => if ci = G.2.2.2.2.2.2 x then some (.inr (.inl (x, .ref b :: (st.take y).reverse, r, nx))) else none
        | _ => none)
      | _ => none
  | .invokestatic _ => if x = 9000 then (s2i st fun a b r => if mwid r ≤ 8 then okk nx ls (.int (if b < a then b else a) :: r) h else none) else if y ≤ st.length then some (.inr (.inl (x, (st.take y).reverse, st.drop y, nx))) else none
  | .ireturn => match st with
    | [v] => if isI v && (match G.2.2.2.2.2.1 M with
      | some ty => fitB ty v
      | none => false) then some (.inr (.inr (.inl (some v)))) else none
    | _ => none
  | .lreturn => match st with
    | [v] => if isL v && decide (G.2.2.2.2.2.1 M = some .long) then some (.inr (.inr (.inl (some v)))) else none
    | _ => none
  | .areturn => match st with
    | [v] => if isR v && (match G.2.2.2.2.2.1 M with
      | some (.object _) => true
      | _ => false) then some (.inr (.inr (.inl (some v)))) else none
    | _ => none
  | .return_ => if decide (G.2.2.2.2.2.1 M = none) && st.isEmpty then some (.inr (.inr (.inl none))) else none
  | _ => none
def mstep (G : GI) (M pc : Nat) (ls : ML) (st : List Value) (h : MH) : Option ST := match G.1 M pc with
  | some (i, nx, x, y) => stepI G M pc i nx x y ls st h
  | none => none
/-- the locals at a method's entry -/
def ment (i : Nat) (vs : List Value) : ML := match vs with
  | [] => []
  | v :: r => (i, v) :: ment (i + v.category) r
/-- a method's run: fuel, depth of calls left, the method, where, locals, stack, heap, cells and slots made -/
noncomputable def mrun (G : GI) (f : Nat) : Nat → Nat → Nat → ML → List Value → MH → Nat → Nat → Option (Option Value × MH × Nat × Nat) :=
  Nat.rec (fun _ _ _ _ _ _ _ _ => none) (fun _ ih d M pc ls st h k n => match mstep G M pc ls st h with
    | none => none
    | some (.inl (pc', ls', st', h', dk, dn)) => ih d M pc' ls' st' h' (k + dk) (n + dn)
    | some (.inr (.inl (y, as, r, pc'))) => if mwid r ≤ 8 && (decide (mwid as ≤ G.2.1 y) && decide (G.2.1 y ≤ 21)) then (match d with
      | 0 => none
      | d' + 1 => match ih d' y 0 (ment 0 as) [] h 0 0 with
        | some (v, h', k', n') => ih d M pc' ls (v.toList ++ r) h' (k + k') (n + n')
        | none => none) else none
    | some (.inr (.inr (.inl v))) => some (v, h, k, n)
    | some (.inr (.inr (.inr (alts, ls', st')))) => match alts.find? (fun q => q.1) with
      | some (_, pc') => ih d M pc' ls' st' h k n
      | none => none) f
theorem mrun_0 (G : GI) (d M pc : Nat) (ls : ML) (st : List Value) (h : MH) (k n : Nat) : mrun G 0 d M pc ls st h k n = none := rfl
theorem mrun_s (G : GI) (f d M pc : Nat) (ls : ML) (st : List Value) (h : MH) (k n : Nat) : mrun G (f + 1) d M pc ls st h k n = (match mstep G M pc ls st h with
    | none => none
    | some (.inl (pc', ls', st', h', dk, dn)) => mrun G f d M pc' ls' st' h' (k + dk) (n + dn)
    | some (.inr (.inl (y, as, r, pc'))) => if mwid r ≤ 8 && (decide (mwid as ≤ G.2.1 y) && decide (G.2.1 y ≤ 21)) then (match d with
      | 0 => none
      | d' + 1 => match mrun G f d' y 0 (ment 0 as) [] h 0 0 with
        | some (v, h', k', n') => mrun G f d M pc' ls (v.toList ++ r) h' (k + k') (n + n')
        | none => none) else none
    | some (.inr (.inr (.inl v))) => some (v, h, k, n)
    | some (.inr (.inr (.inr (alts, ls', st')))) => match alts.find? (fun q => q.1) with
      | some (_, pc') => mrun G f d M pc' ls' st' h k n
      | none => none) := rfl
/-- what kind of step an instruction makes: 0 on, 1 a branch, 2 an answer, 3 a call, 4 none -/
def ikd (i : Instr) : Nat := match i with
  | .iconst _ | .bipush _ | .sipush _ | .lconst _ | .aconst_null | .ldc _ | .ldc_w _ | .ldc2_w _ => 0
  | .iload_n _ | .iload _ | .lload_n _ | .lload _ | .aload_n _ | .aload _ | .istore_n _ | .istore _ | .astore_n _ | .astore _ | .lstore_n _ | .lstore _ | .iinc _ _ => 0
  | .iadd | .isub | .imul | .iand | .idiv | .irem | .ineg | .i2l | .i2b | .l2i | .ladd | .lmul | .ldiv | .lrem | .lneg | .lcmp | .dup | .pop | .dup_x1 | .dup2 => 0
  | .goto _ | .if_acmp _ _ | .ifnull _ | .ifnonnull _ | .getfield _ | .putfield _ | .getstatic _ | .arraylength | .iaload | .baload | .aaload | .iastore | .bastore | .aastore => 0
  | .newarray _ | .anewarray _ | .new _ => 0
  | .ifCond _ _ | .if_icmp _ _ | .tableswitch _ _ _ _ => 1
  | .ireturn | .lreturn | .areturn | .return_ => 2
  | .invokespecial _ | .invokevirtual _ | .invokestatic _ => 3
  | _ => 4
end
section
/-! The small machine's cells, and the machine's. -/
/-- a number's address: those below 64 were there, the others were made, one behind another -/
def mad (pre : Nat → Nat) (base a : Nat) : Nat := if a < 64 then pre a else base + (a - 64)
def emv (pre : Nat → Nat) (base : Nat) (v : Value) : Value := match v with
  | .ref a => .ref (mad pre base a)
  | w => w
def emA (pre : Nat → Nat) (base : Nat) (f : MA) : (Nat → Int32) ⊕ (Nat → Int64) ⊕ (Nat → UInt32) ⊕ (Nat → UInt64) ⊕ (Nat → Option Nat) := match f with
  | .inl g => .inl g
  | .inr g => .inr (.inr (.inr (.inr (fun j => (g j).map (mad pre base)))))
def emE (dA : Nat → ClassId) (pre : Nat → Nat) (base : Nat) (e : ME) : va_E := match e with
  | .inl (t, n, f) => .inl (dA t, n, emA pre base f)
  | .inr (ci, fs) => .inr (ci, fs.map (emv pre base))
def emL (pre : Nat → Nat) (base : Nat) (ls : ML) : List (Nat × Value) := ls.map fun q => (q.1, emv pre base q.2)
def mws (dA : Nat → ClassId) (pre : Nat → Nat) (base : Nat) (h : MH) : va_W := (h.2.reverse.zipIdx base).map fun q => (q.2, emE dA pre base q.1)
def mR (D : va_G) (cl : List vw_C) (dA : Nat → ClassId) (pre : Nat → Nat) (base : Nat) (h : MH) (H : Heap) : Prop := h.1 = h.2.length + 64 ∧ va_P D cl (mws dA pre base h) H ∧ H.size = base + h.2.length
theorem mws_at {dA : Nat → ClassId} {pre : Nat → Nat} {base : Nat} (h : MH) (k : Nat) : (mws dA pre base h)[k]? = (h.2.reverse[k]?).map (fun e => (base + k, emE dA pre base e)) := by
  unfold mws
  rw [List.getElem?_map, List.getElem?_zipIdx]
  cases h.2.reverse[k]? <;> simp
theorem mget_at {h : MH} (hk : h.1 = h.2.length + 64) {a : Nat} (ha : 64 ≤ a) : mget h a = h.2.reverse[a - 64]? := by
  unfold mget
  by_cases h1 : a < h.1
  · rw [if_pos h1, List.getElem?_reverse (by omega)]
    congr 1
    omega
  · rw [if_neg h1, List.getElem?_eq_none (by rw [List.length_reverse]; omega)]
theorem mget_lt {h : MH} (hk : h.1 = h.2.length + 64) {a : Nat} {e : ME} (hg : mget h a = some e) : 64 ≤ a ∧ a < h.1 := by
  unfold mget at hg
  by_cases h1 : a < h.1
  · rw [if_pos h1] at hg
    have := (List.getElem?_eq_some_iff.mp hg).1
    omega
  · rw [if_neg h1] at hg
    cases hg
theorem mws_get {dA : Nat → ClassId} {pre : Nat → Nat} {base : Nat} {h : MH} (hk : h.1 = h.2.length + 64) {a : Nat} {e : ME} (hg : mget h a = some e) : (mws dA pre base h)[a - 64]? = some (mad pre base a, emE dA pre base e) := by
  obtain ⟨h1, h2⟩ := mget_lt hk hg
  rw [mget_at hk h1] at hg
  rw [mws_at, hg]
  simp only [Option.map_some]
  unfold mad
  rw [if_neg (by omega)]
theorem mput_ok {h : MH} (hk : h.1 = h.2.length + 64) (a : Nat) (e : ME) : (mput h a e).1 = (mput h a e).2.length + 64 := by
  simp [mput, hk]
theorem mws_put {dA : Nat → ClassId} {pre : Nat → Nat} {base : Nat} {h : MH} (hk : h.1 = h.2.length + 64) {a : Nat} {e0 e : ME} (hg : mget h a = some e0) : mws dA pre base (mput h a e) = (mws dA pre base h).set (a - 64) (mad pre base a, emE dA pre base e) := by
  obtain ⟨h1, h2⟩ := mget_lt hk hg
  have hr : (mput h a e).2.reverse = h.2.reverse.set (a - 64) e := by
    unfold mput
    simp only
    apply List.ext_getElem?
    intro j
    by_cases hj : j < h.2.length
    · rw [List.getElem?_reverse (by simpa using hj), List.length_set, List.getElem?_set, List.getElem?_set, List.getElem?_reverse hj, List.length_reverse]
      by_cases h3 : a - 64 = j
      · rw [if_pos (by omega), if_pos h3, if_pos (by omega), if_pos (by omega)]
      · rw [if_neg (by omega), if_neg h3]
    · rw [List.getElem?_eq_none (by simp; omega), List.getElem?_eq_none (by simp; omega)]
  apply List.ext_getElem?
  intro j
  rw [mws_at, hr, List.getElem?_set, List.getElem?_set, mws_at]
  by_cases h3 : a - 64 = j
  · subst h3
    rw [if_pos rfl, if_pos rfl]
    have hl : List.length (mws dA pre base h) = h.2.length := by simp [mws]
    rw [if_pos (show a - 64 < List.length h.2.reverse by rw [List.length_reverse]; omega), if_pos (show a - 64 < List.length (mws dA pre base h) by omega)]
    simp only [Option.map_some]
    unfold mad
    rw [if_neg (by omega)]
  · rw [if_neg h3, if_neg h3]
theorem mws_push {dA : Nat → ClassId} {pre : Nat → Nat} {base : Nat} (h : MH) (e : ME) : mws dA pre base (mpush h e) = mws dA pre base h ++ [(base + h.2.length, emE dA pre base e)] := by
  unfold mws mpush
  simp [List.zipIdx_append]
theorem mws_D {dA : Nat → ClassId} {pre : Nat → Nat} {base : Nat} (h : MH) : va_D (fun q => base ≤ q) (mws dA pre base h) := by
  refine ⟨fun i j x y hi hj hxy => ?_, fun k q hq => ?_⟩
  · rw [mws_at] at hi hj
    obtain ⟨e1, -, rfl⟩ := Option.map_eq_some_iff.mp hi
    obtain ⟨e2, -, rfl⟩ := Option.map_eq_some_iff.mp hj
    simp only at hxy
    omega
  · rw [mws_at] at hq
    obtain ⟨e1, -, rfl⟩ := Option.map_eq_some_iff.mp hq
    show base ≤ base + k
    omega
theorem emv_cat (pre : Nat → Nat) (base : Nat) (v : Value) : (emv pre base v).category = v.category := by
  cases v <;> rfl
theorem emL_lk {pre : Nat → Nat} {base : Nat} {ls : ML} {i : Nat} {v : Value} {lsA : Array Slot} {nL : Nat} (hl : lv_has lsA nL (emL pre base ls)) (h : lkl ls i = some v) : lsA[i]? = some (.val (emv pre base v)) := by
  unfold lkl at h
  obtain ⟨q, hq, rfl⟩ := Option.map_eq_some_iff.mp h
  have h1 := List.mem_of_find?_eq_some hq
  have h2 := List.find?_some hq
  have h3 : q.1 = i := by simpa using h2
  subst h3
  exact hl.2.2 (q.1, emv pre base q.2) (List.mem_map.mpr ⟨q, h1, rfl⟩)
theorem emL_sto1 {pre : Nat → Nat} {base : Nat} (ls : ML) (i : Nat) (v : Value) : (i, emv pre base v) :: (emL pre base ls).filter (fun q => !(q.1 == i) && !(q.1 + 1 == i && q.2.category == 2)) = emL pre base (sto1 ls i v) := by
  unfold emL sto1
  rw [List.map_cons, List.filter_map]
  congr 2
  apply List.filter_congr
  intro q _
  simp [emv_cat]
theorem emL_sto2 {pre : Nat → Nat} {base : Nat} (ls : ML) (i : Nat) (v : Value) : (i, emv pre base v) :: (emL pre base ls).filter (fun q => !(q.1 == i) && (!(q.1 == i + 1) && !(q.1 + 1 == i && q.2.category == 2))) = emL pre base (sto2 ls i v) := by
  unfold emL sto2
  rw [List.map_cons, List.filter_map]
  congr 2
  apply List.filter_congr
  intro q _
  simp [emv_cat]
theorem fitB_ok {ty : FieldType} {v : Value} {pre : Nat → Nat} {base : Nat} (h : fitB ty v = true) : narrow ty (emv pre base v) = emv pre base v ∧ fits ty (emv pre base v) = true := by
  cases ty <;> cases v <;> simp [fitB, isI, isL, isR] at h <;> simp [emv, narrow, fits]
  rcases h with rfl | rfl <;> decide
theorem vin_ok {i : Int32} {n : Nat} (h : vin i n = true) : vp_in i n := by
  unfold vin at h
  simp only [Bool.and_eq_true, decide_eq_true_eq] at h
  rintro (h1 | h1)
  · exact Int32.not_lt.mpr h.1 h1
  · omega
end
section
/-! A step of the small machine is a step of the machine. -/
theorem s1_ok {st : List Value} {k : Value → List Value → Option ST} {z : ST} (h : s1 st k = some z) : ∃ v r, st = v :: r ∧ k v r = some z := by
  cases st with
  | nil => cases h
  | cons v r => exact ⟨v, r, rfl, h⟩
theorem s1i_ok {st : List Value} {k : Int32 → List Value → Option ST} {z : ST} (h : s1i st k = some z) : ∃ a r, st = .int a :: r ∧ k a r = some z := by
  obtain ⟨v, r, rfl, h⟩ := s1_ok h
  cases v with
  | int a => exact ⟨a, r, rfl, h⟩
  | _ => cases h
theorem s1l_ok {st : List Value} {k : Int64 → List Value → Option ST} {z : ST} (h : s1l st k = some z) : ∃ a r, st = .long a :: r ∧ k a r = some z := by
  obtain ⟨v, r, rfl, h⟩ := s1_ok h
  cases v with
  | long a => exact ⟨a, r, rfl, h⟩
  | _ => cases h
theorem s1r_ok {st : List Value} {k : Nat → List Value → Option ST} {z : ST} (h : s1r st k = some z) : ∃ a r, st = .ref a :: r ∧ k a r = some z := by
  obtain ⟨v, r, rfl, h⟩ := s1_ok h
  cases v with
  | ref a => exact ⟨a, r, rfl, h⟩
  | _ => cases h
theorem s2i_ok {st : List Value} {k : Int32 → Int32 → List Value → Option ST} {z : ST} (h : s2i st k = some z) : ∃ a b r, st = .int b :: .int a :: r ∧ k a b r = some z := by
  obtain ⟨b, r1, rfl, h1⟩ := s1i_ok h
  obtain ⟨a, r, rfl, h2⟩ := s1i_ok h1
  exact ⟨a, b, r, rfl, h2⟩
theorem s2l_ok {st : List Value} {k : Int64 → Int64 → List Value → Option ST} {z : ST} (h : s2l st k = some z) : ∃ a b r, st = .long b :: .long a :: r ∧ k a b r = some z := by
  obtain ⟨b, r1, rfl, h1⟩ := s1l_ok h
  obtain ⟨a, r, rfl, h2⟩ := s1l_ok h1
  exact ⟨a, b, r, rfl, h2⟩
theorem okk_ok {nx : Nat} {ls : ML} {st : List Value} {h : MH} {z : Nat × ML × List Value × MH × Nat × Nat} (e : okk nx ls st h = some (.inl z)) : z = (nx, ls, st, h, 0, 0) := by
  unfold okk at e
  cases e
  rfl
theorem if_ok {α : Type} {c : Prop} {_d : Decidable c} {a : Option α} {z : α} (h : (if c then a else none) = some z) : c ∧ a = some z := by
  by_cases hc : c
  · rw [if_pos hc] at h
    exact ⟨hc, h⟩
  · rw [if_neg hc] at h
    cases h
theorem ifn_ok {α : Type} {c : Prop} {_d : Decidable c} {a : Option α} {z : α} (h : (if c then none else a) = some z) : ¬ c ∧ a = some z := by
  by_cases hc : c
  · rw [if_pos hc] at h
    cases h
  · rw [if_neg hc] at h
    exact ⟨hc, h⟩
def mty (dA : Nat → ClassId) (tyL : List FieldType) : List (ClassId × FieldType) := (List.range tyL.length).map fun k => (dA k, tyL.getD k .int)
theorem mty_at {dA : Nat → ClassId} {tyL : List FieldType} {k : Nat} {ty : FieldType} (h : tyL[k]? = some ty) : (mty dA tyL)[k]? = some (dA k, ty) := by
  unfold mty
  have hk := (List.getElem?_eq_some_iff.mp h).1
  rw [List.getElem?_map, List.getElem?_range hk]
  simp [List.getD, h]
def mCx (p : Program) (s : State) (m : MethodId) (args : Array Value) (c : Code) (D : va_G) (cl : List vw_C) (dA : Nat → ClassId) (pre : Nat → Nat) (base : Nat) (tyL : List FieldType) (Ts : List Cond) (G : GI) (cc : ByteArray) (own : String) (nL : Nat) : Prop :=
  p.tables.exec = Jvm.exec ∧ c.code = cc ∧ c.maxLocals = nL ∧ s.vm.findClass own = some m.cls ∧ (∀ w ∈ Ts, w.before args s = true) ∧ va_K D cl (mty dA tyL) s ∧ base ≤ s.heap.size ∧ (∀ (a n : Nat) (f : Nat → Int32), G.2.2.1 a = some (n, f) → a < 8 → va_X (pre a) n f s s.heap ∧ pre a < base)
section SO
variable {p : Program} {l : Launch} {e : Env} {R : Room} {s : State} {m : MethodId} {args : Array Value} {below : List Frame} {meth : Method} {c : Code} {Q : State → Prop}
variable {D : va_G} {cl : List vw_C} {dA : Nat → ClassId} {pre : Nat → Nat} {base : Nat} {tyL : List FieldType} {Ts : List Cond} {G : GI} {cc : ByteArray} {own : String} {nL : Nat}
variable {M pc nx x y : Nat} {ls : ML} {st : List Value} {h : MH} {cells slots : Nat} {z : Nat × ML × List Value × MH × Nat × Nat}
def mGo (p : Program) (l : Launch) (e : Env) (R : Room) (s : State) (m : MethodId) (args : Array Value) (below : List Frame) (meth : Method) (c : Code) (Q : State → Prop) (D : va_G) (cl : List vw_C) (dA : Nat → ClassId) (pre : Nat → Nat) (base nL : Nat)
    (pc : Nat) (ls : ML) (st : List Value) (h : MH) (cells slots : Nat) : Prop := ∀ (lsA : Array Slot) (H : Heap) (locs : List Loc), lv_has lsA nL (emL pre base ls) → mR D cl dA pre base h H → va_S (fun q => base ≤ q) s.heap H locs → s.heap.size + cells = H.size →
      W p l e R s m args below meth c H locs cells slots Q (F0 m pc lsA (st.map (emv pre base)))
theorem so_iconst {n : Int} (X : mCx p s m args c D cl dA pre base tyL Ts G cc own nL) (hd : decode cc pc = .ok (.iconst n, 1)) (hnx : nx = pc + 1) (hz : stepI G M pc (.iconst n) nx x y ls st h = some (.inl z)) (kk : mGo p l e R s m args below meth c Q D cl dA pre base nL z.1 z.2.1 z.2.2.1 z.2.2.2.1 (cells + z.2.2.2.2.1) (slots + z.2.2.2.2.2)) : mGo p l e R s m args below meth c Q D cl dA pre base nL pc ls st h cells slots := by
  cases okk_ok hz
  subst hnx
  intro lsA H locs hL hR hS hZ
  exact lv_iconst X.1 X.2.1 hd rfl (kk lsA H locs hL hR hS hZ)
theorem so_bipush {n : Int} (X : mCx p s m args c D cl dA pre base tyL Ts G cc own nL) (hd : decode cc pc = .ok (.bipush n, 2)) (hnx : nx = pc + 2) (hz : stepI G M pc (.bipush n) nx x y ls st h = some (.inl z)) (kk : mGo p l e R s m args below meth c Q D cl dA pre base nL z.1 z.2.1 z.2.2.1 z.2.2.2.1 (cells + z.2.2.2.2.1) (slots + z.2.2.2.2.2)) : mGo p l e R s m args below meth c Q D cl dA pre base nL pc ls st h cells slots := by
  cases okk_ok hz
  subst hnx
  intro lsA H locs hL hR hS hZ
  exact lv_bipush X.1 X.2.1 hd rfl (kk lsA H locs hL hR hS hZ)
theorem so_sipush {n : Int} (X : mCx p s m args c D cl dA pre base tyL Ts G cc own nL) (hd : decode cc pc = .ok (.sipush n, 3)) (hnx : nx = pc + 3) (hz : stepI G M pc (.sipush n) nx x y ls st h = some (.inl z)) (kk : mGo p l e R s m args below meth c Q D cl dA pre base nL z.1 z.2.1 z.2.2.1 z.2.2.2.1 (cells + z.2.2.2.2.1) (slots + z.2.2.2.2.2)) : mGo p l e R s m args below meth c Q D cl dA pre base nL pc ls st h cells slots := by
  cases okk_ok hz
  subst hnx
  intro lsA H locs hL hR hS hZ
  exact lv_sipush X.1 X.2.1 hd rfl (kk lsA H locs hL hR hS hZ)
theorem so_lconst {n : Fin 2} (X : mCx p s m args c D cl dA pre base tyL Ts G cc own nL) (hd : decode cc pc = .ok (.lconst n, 1)) (hnx : nx = pc + 1) (hz : stepI G M pc (.lconst n) nx x y ls st h = some (.inl z)) (kk : mGo p l e R s m args below meth c Q D cl dA pre base nL z.1 z.2.1 z.2.2.1 z.2.2.2.1 (cells + z.2.2.2.2.1) (slots + z.2.2.2.2.2)) : mGo p l e R s m args below meth c Q D cl dA pre base nL pc ls st h cells slots := by
  cases okk_ok hz
  subst hnx
  intro lsA H locs hL hR hS hZ
  exact lv_lconst X.1 X.2.1 hd rfl (kk lsA H locs hL hR hS hZ)
theorem so_null  (X : mCx p s m args c D cl dA pre base tyL Ts G cc own nL) (hd : decode cc pc = .ok (.aconst_null, 1)) (hnx : nx = pc + 1) (hz : stepI G M pc (.aconst_null) nx x y ls st h = some (.inl z)) (kk : mGo p l e R s m args below meth c Q D cl dA pre base nL z.1 z.2.1 z.2.2.1 z.2.2.2.1 (cells + z.2.2.2.2.1) (slots + z.2.2.2.2.2)) : mGo p l e R s m args below meth c Q D cl dA pre base nL pc ls st h cells slots := by
  cases okk_ok hz
  subst hnx
  intro lsA H locs hL hR hS hZ
  exact lv_null X.1 X.2.1 hd (kk lsA H locs hL hR hS hZ)
theorem stload_ok {ls : ML} {i nx : Nat} {st : List Value} {h : MH} {ok : Value → Bool} {z : Nat × ML × List Value × MH × Nat × Nat} (e : stload ls i nx st h ok = some (.inl z)) : ∃ v, lkl ls i = some v ∧ ok v = true ∧ z = (nx, ls, v :: st, h, 0, 0) := by
  unfold stload at e
  cases hv : lkl ls i with
  | none => rw [hv] at e; cases e
  | some v =>
    rw [hv] at e
    obtain ⟨h1, h2⟩ := if_ok e
    exact ⟨v, rfl, h1, okk_ok h2⟩
theorem so_iload_n {k : Fin 4} (X : mCx p s m args c D cl dA pre base tyL Ts G cc own nL) (hd : decode cc pc = .ok (.iload_n k, 1)) (hnx : nx = pc + 1) (hz : stepI G M pc (.iload_n k) nx x y ls st h = some (.inl z)) (kk : mGo p l e R s m args below meth c Q D cl dA pre base nL z.1 z.2.1 z.2.2.1 z.2.2.2.1 (cells + z.2.2.2.2.1) (slots + z.2.2.2.2.2)) : mGo p l e R s m args below meth c Q D cl dA pre base nL pc ls st h cells slots := by
  obtain ⟨v, hv, hok, rfl⟩ := stload_ok hz
  subst hnx
  intro lsA H locs hL hR hS hZ
  have hv := emL_lk hL hv
  cases v with
  | int a => exact lv_iload_n X.1 X.2.1 hd rfl hv (kk lsA H locs hL hR hS hZ)
  | _ => cases hok
theorem so_iload {k : Nat} (X : mCx p s m args c D cl dA pre base tyL Ts G cc own nL) (hd : decode cc pc = .ok (.iload k, 2)) (hnx : nx = pc + 2) (hz : stepI G M pc (.iload k) nx x y ls st h = some (.inl z)) (kk : mGo p l e R s m args below meth c Q D cl dA pre base nL z.1 z.2.1 z.2.2.1 z.2.2.2.1 (cells + z.2.2.2.2.1) (slots + z.2.2.2.2.2)) : mGo p l e R s m args below meth c Q D cl dA pre base nL pc ls st h cells slots := by
  obtain ⟨v, hv, hok, rfl⟩ := stload_ok hz
  subst hnx
  intro lsA H locs hL hR hS hZ
  have hv := emL_lk hL hv
  cases v with
  | int a => exact lv_iload X.1 X.2.1 hd hv (kk lsA H locs hL hR hS hZ)
  | _ => cases hok
theorem so_lload_n {k : Fin 4} (X : mCx p s m args c D cl dA pre base tyL Ts G cc own nL) (hd : decode cc pc = .ok (.lload_n k, 1)) (hnx : nx = pc + 1) (hz : stepI G M pc (.lload_n k) nx x y ls st h = some (.inl z)) (kk : mGo p l e R s m args below meth c Q D cl dA pre base nL z.1 z.2.1 z.2.2.1 z.2.2.2.1 (cells + z.2.2.2.2.1) (slots + z.2.2.2.2.2)) : mGo p l e R s m args below meth c Q D cl dA pre base nL pc ls st h cells slots := by
  obtain ⟨v, hv, hok, rfl⟩ := stload_ok hz
  subst hnx
  intro lsA H locs hL hR hS hZ
  have hv := emL_lk hL hv
  cases v with
  | long a => exact lv_lload_n X.1 X.2.1 hd rfl hv (kk lsA H locs hL hR hS hZ)
  | _ => cases hok
theorem so_lload {k : Nat} (X : mCx p s m args c D cl dA pre base tyL Ts G cc own nL) (hd : decode cc pc = .ok (.lload k, 2)) (hnx : nx = pc + 2) (hz : stepI G M pc (.lload k) nx x y ls st h = some (.inl z)) (kk : mGo p l e R s m args below meth c Q D cl dA pre base nL z.1 z.2.1 z.2.2.1 z.2.2.2.1 (cells + z.2.2.2.2.1) (slots + z.2.2.2.2.2)) : mGo p l e R s m args below meth c Q D cl dA pre base nL pc ls st h cells slots := by
  obtain ⟨v, hv, hok, rfl⟩ := stload_ok hz
  subst hnx
  intro lsA H locs hL hR hS hZ
  have hv := emL_lk hL hv
  cases v with
  | long a => exact lv_lload X.1 X.2.1 hd hv (kk lsA H locs hL hR hS hZ)
  | _ => cases hok
theorem so_aload_n {k : Fin 4} (X : mCx p s m args c D cl dA pre base tyL Ts G cc own nL) (hd : decode cc pc = .ok (.aload_n k, 1)) (hnx : nx = pc + 1) (hz : stepI G M pc (.aload_n k) nx x y ls st h = some (.inl z)) (kk : mGo p l e R s m args below meth c Q D cl dA pre base nL z.1 z.2.1 z.2.2.1 z.2.2.2.1 (cells + z.2.2.2.2.1) (slots + z.2.2.2.2.2)) : mGo p l e R s m args below meth c Q D cl dA pre base nL pc ls st h cells slots := by
  obtain ⟨v, hv, hok, rfl⟩ := stload_ok hz
  subst hnx
  intro lsA H locs hL hR hS hZ
  have hv := emL_lk hL hv
  cases v with
  | ref a => exact lv_aload_n X.1 X.2.1 hd rfl hv (kk lsA H locs hL hR hS hZ)
  | null => exact lv_aload_nN X.1 X.2.1 hd rfl hv (kk lsA H locs hL hR hS hZ)
  | _ => cases hok
theorem so_aload {k : Nat} (X : mCx p s m args c D cl dA pre base tyL Ts G cc own nL) (hd : decode cc pc = .ok (.aload k, 2)) (hnx : nx = pc + 2) (hz : stepI G M pc (.aload k) nx x y ls st h = some (.inl z)) (kk : mGo p l e R s m args below meth c Q D cl dA pre base nL z.1 z.2.1 z.2.2.1 z.2.2.2.1 (cells + z.2.2.2.2.1) (slots + z.2.2.2.2.2)) : mGo p l e R s m args below meth c Q D cl dA pre base nL pc ls st h cells slots := by
  obtain ⟨v, hv, hok, rfl⟩ := stload_ok hz
  subst hnx
  intro lsA H locs hL hR hS hZ
  have hv := emL_lk hL hv
  cases v with
  | ref a => exact lv_aload X.1 X.2.1 hd hv (kk lsA H locs hL hR hS hZ)
  | null => exact lv_aloadN X.1 X.2.1 hd hv (kk lsA H locs hL hR hS hZ)
  | _ => cases hok
theorem ststore1_ok {G : GI} {M : Nat} {ls : ML} {i nx : Nat} {st : List Value} {h : MH} {ok : Value → Bool} {z : Nat × ML × List Value × MH × Nat × Nat} (e : ststore1 G M ls i nx st h ok = some (.inl z)) : ∃ v r, st = v :: r ∧ ok v = true ∧ i < G.2.1 M ∧ z = (nx, sto1 ls i v, r, h, 0, 0) := by
  obtain ⟨v, r, rfl, e⟩ := s1_ok e
  obtain ⟨h1, h2⟩ := if_ok e
  simp only [Bool.and_eq_true, decide_eq_true_eq] at h1
  exact ⟨v, r, rfl, h1.1, h1.2, okk_ok h2⟩
theorem ststore2_ok {G : GI} {M : Nat} {ls : ML} {i nx : Nat} {st : List Value} {h : MH} {z : Nat × ML × List Value × MH × Nat × Nat} (e : ststore2 G M ls i nx st h = some (.inl z)) : ∃ v r, st = v :: r ∧ isL v = true ∧ i + 1 < G.2.1 M ∧ z = (nx, sto2 ls i v, r, h, 0, 0) := by
  obtain ⟨v, r, rfl, e⟩ := s1_ok e
  obtain ⟨h1, h2⟩ := if_ok e
  simp only [Bool.and_eq_true, decide_eq_true_eq] at h1
  exact ⟨v, r, rfl, h1.1, h1.2, okk_ok h2⟩
theorem so_istore_n {k : Fin 4} (X : mCx p s m args c D cl dA pre base tyL Ts G cc own nL) (hd : decode cc pc = .ok (.istore_n k, 1)) (hnx : nx = pc + 1) (hnl : G.2.1 M = nL) (hz : stepI G M pc (.istore_n k) nx x y ls st h = some (.inl z)) (kk : mGo p l e R s m args below meth c Q D cl dA pre base nL z.1 z.2.1 z.2.2.1 z.2.2.2.1 (cells + z.2.2.2.2.1) (slots + z.2.2.2.2.2)) : mGo p l e R s m args below meth c Q D cl dA pre base nL pc ls st h cells slots := by
  obtain ⟨v, r, rfl, hok, hi, rfl⟩ := ststore1_ok hz
  rw [hnl] at hi
  subst hnx
  intro lsA H locs hL hR hS hZ
  cases v with
  | int a => exact lv_istore_n X.1 X.2.1 hd rfl hL hi (emL_sto1 ls _ (.int a)) (fun lsA hL => kk lsA H locs hL hR hS hZ)
  | _ => cases hok
theorem so_istore {k : Nat} (X : mCx p s m args c D cl dA pre base tyL Ts G cc own nL) (hd : decode cc pc = .ok (.istore k, 2)) (hnx : nx = pc + 2) (hnl : G.2.1 M = nL) (hz : stepI G M pc (.istore k) nx x y ls st h = some (.inl z)) (kk : mGo p l e R s m args below meth c Q D cl dA pre base nL z.1 z.2.1 z.2.2.1 z.2.2.2.1 (cells + z.2.2.2.2.1) (slots + z.2.2.2.2.2)) : mGo p l e R s m args below meth c Q D cl dA pre base nL pc ls st h cells slots := by
  obtain ⟨v, r, rfl, hok, hi, rfl⟩ := ststore1_ok hz
  rw [hnl] at hi
  subst hnx
  intro lsA H locs hL hR hS hZ
  cases v with
  | int a => exact lv_istore X.1 X.2.1 hd hL hi (emL_sto1 ls _ (.int a)) (fun lsA hL => kk lsA H locs hL hR hS hZ)
  | _ => cases hok
theorem so_astore_n {k : Fin 4} (X : mCx p s m args c D cl dA pre base tyL Ts G cc own nL) (hd : decode cc pc = .ok (.astore_n k, 1)) (hnx : nx = pc + 1) (hnl : G.2.1 M = nL) (hz : stepI G M pc (.astore_n k) nx x y ls st h = some (.inl z)) (kk : mGo p l e R s m args below meth c Q D cl dA pre base nL z.1 z.2.1 z.2.2.1 z.2.2.2.1 (cells + z.2.2.2.2.1) (slots + z.2.2.2.2.2)) : mGo p l e R s m args below meth c Q D cl dA pre base nL pc ls st h cells slots := by
  obtain ⟨v, r, rfl, hok, hi, rfl⟩ := ststore1_ok hz
  rw [hnl] at hi
  subst hnx
  intro lsA H locs hL hR hS hZ
  cases v with
  | ref a => exact lv_astore_n X.1 X.2.1 hd rfl hL hi (emL_sto1 ls _ (.ref a)) (fun lsA hL => kk lsA H locs hL hR hS hZ)
  | null => exact lv_astore_nN X.1 X.2.1 hd rfl hL hi (emL_sto1 ls _ .null) (fun lsA hL => kk lsA H locs hL hR hS hZ)
  | _ => cases hok
theorem so_astore {k : Nat} (X : mCx p s m args c D cl dA pre base tyL Ts G cc own nL) (hd : decode cc pc = .ok (.astore k, 2)) (hnx : nx = pc + 2) (hnl : G.2.1 M = nL) (hz : stepI G M pc (.astore k) nx x y ls st h = some (.inl z)) (kk : mGo p l e R s m args below meth c Q D cl dA pre base nL z.1 z.2.1 z.2.2.1 z.2.2.2.1 (cells + z.2.2.2.2.1) (slots + z.2.2.2.2.2)) : mGo p l e R s m args below meth c Q D cl dA pre base nL pc ls st h cells slots := by
  obtain ⟨v, r, rfl, hok, hi, rfl⟩ := ststore1_ok hz
  rw [hnl] at hi
  subst hnx
  intro lsA H locs hL hR hS hZ
  cases v with
  | ref a => exact lv_astore X.1 X.2.1 hd hL hi (emL_sto1 ls _ (.ref a)) (fun lsA hL => kk lsA H locs hL hR hS hZ)
  | null => exact lv_astoreN X.1 X.2.1 hd hL hi (emL_sto1 ls _ .null) (fun lsA hL => kk lsA H locs hL hR hS hZ)
  | _ => cases hok
theorem so_lstore_n {k : Fin 4} (X : mCx p s m args c D cl dA pre base tyL Ts G cc own nL) (hd : decode cc pc = .ok (.lstore_n k, 1)) (hnx : nx = pc + 1) (hnl : G.2.1 M = nL) (hz : stepI G M pc (.lstore_n k) nx x y ls st h = some (.inl z)) (kk : mGo p l e R s m args below meth c Q D cl dA pre base nL z.1 z.2.1 z.2.2.1 z.2.2.2.1 (cells + z.2.2.2.2.1) (slots + z.2.2.2.2.2)) : mGo p l e R s m args below meth c Q D cl dA pre base nL pc ls st h cells slots := by
  obtain ⟨v, r, rfl, hok, hi, rfl⟩ := ststore2_ok hz
  rw [hnl] at hi
  subst hnx
  intro lsA H locs hL hR hS hZ
  cases v with
  | long a => exact lv_lstore_n X.1 X.2.1 hd rfl hL hi (emL_sto2 ls _ (.long a)) (fun lsA hL => kk lsA H locs hL hR hS hZ)
  | _ => cases hok
theorem so_lstore {k : Nat} (X : mCx p s m args c D cl dA pre base tyL Ts G cc own nL) (hd : decode cc pc = .ok (.lstore k, 2)) (hnx : nx = pc + 2) (hnl : G.2.1 M = nL) (hz : stepI G M pc (.lstore k) nx x y ls st h = some (.inl z)) (kk : mGo p l e R s m args below meth c Q D cl dA pre base nL z.1 z.2.1 z.2.2.1 z.2.2.2.1 (cells + z.2.2.2.2.1) (slots + z.2.2.2.2.2)) : mGo p l e R s m args below meth c Q D cl dA pre base nL pc ls st h cells slots := by
  obtain ⟨v, r, rfl, hok, hi, rfl⟩ := ststore2_ok hz
  rw [hnl] at hi
  subst hnx
  intro lsA H locs hL hR hS hZ
  cases v with
  | long a => exact lv_lstore X.1 X.2.1 hd hL hi (emL_sto2 ls _ (.long a)) (fun lsA hL => kk lsA H locs hL hR hS hZ)
  | _ => cases hok
theorem so_iinc {k : Nat} {n : Int} (X : mCx p s m args c D cl dA pre base tyL Ts G cc own nL) (hd : decode cc pc = .ok (.iinc k n, 3)) (hnx : nx = pc + 3) (hnl : G.2.1 M = nL) (hz : stepI G M pc (.iinc k n) nx x y ls st h = some (.inl z)) (kk : mGo p l e R s m args below meth c Q D cl dA pre base nL z.1 z.2.1 z.2.2.1 z.2.2.2.1 (cells + z.2.2.2.2.1) (slots + z.2.2.2.2.2)) : mGo p l e R s m args below meth c Q D cl dA pre base nL pc ls st h cells slots := by
  unfold stepI at hz
  simp only at hz
  cases hv : lkl ls k with
  | none => rw [hv] at hz; cases hz
  | some v =>
    rw [hv] at hz
    cases v with
    | int a =>
      obtain ⟨hi, hz⟩ := if_ok hz
      rw [hnl] at hi
      cases okk_ok hz
      subst hnx
      intro lsA H locs hL hR hS hZ
      unfold lkl at hv
      obtain ⟨q, hq, hqv⟩ := Option.map_eq_some_iff.mp hv
      have hq2 : q.1 = k := by simpa using List.find?_some hq
      have hm : (k, Value.int a) ∈ emL pre base ls := List.mem_map.mpr ⟨q, List.mem_of_find?_eq_some hq, by rw [hq2, hqv]; rfl⟩
      obtain ⟨j, hj⟩ := List.getElem?_of_mem hm
      exact lv_iinc X.1 X.2.1 hd hL hj rfl hi (emL_sto1 ls k (.int (a + Int32.ofInt n))) (fun lsA hL => kk lsA H locs hL hR hS hZ)
    | _ => cases hz
theorem so_iadd  (X : mCx p s m args c D cl dA pre base tyL Ts G cc own nL) (hd : decode cc pc = .ok (.iadd, 1)) (hnx : nx = pc + 1) (hz : stepI G M pc (.iadd) nx x y ls st h = some (.inl z)) (kk : mGo p l e R s m args below meth c Q D cl dA pre base nL z.1 z.2.1 z.2.2.1 z.2.2.2.1 (cells + z.2.2.2.2.1) (slots + z.2.2.2.2.2)) : mGo p l e R s m args below meth c Q D cl dA pre base nL pc ls st h cells slots := by
  obtain ⟨a, b, r, rfl, hz⟩ := s2i_ok hz
  cases okk_ok hz
  subst hnx
  intro lsA H locs hL hR hS hZ
  exact lv_iadd X.1 X.2.1 hd (kk lsA H locs hL hR hS hZ)
theorem so_isub  (X : mCx p s m args c D cl dA pre base tyL Ts G cc own nL) (hd : decode cc pc = .ok (.isub, 1)) (hnx : nx = pc + 1) (hz : stepI G M pc (.isub) nx x y ls st h = some (.inl z)) (kk : mGo p l e R s m args below meth c Q D cl dA pre base nL z.1 z.2.1 z.2.2.1 z.2.2.2.1 (cells + z.2.2.2.2.1) (slots + z.2.2.2.2.2)) : mGo p l e R s m args below meth c Q D cl dA pre base nL pc ls st h cells slots := by
  obtain ⟨a, b, r, rfl, hz⟩ := s2i_ok hz
  cases okk_ok hz
  subst hnx
  intro lsA H locs hL hR hS hZ
  exact lv_isub X.1 X.2.1 hd (kk lsA H locs hL hR hS hZ)
theorem so_imul  (X : mCx p s m args c D cl dA pre base tyL Ts G cc own nL) (hd : decode cc pc = .ok (.imul, 1)) (hnx : nx = pc + 1) (hz : stepI G M pc (.imul) nx x y ls st h = some (.inl z)) (kk : mGo p l e R s m args below meth c Q D cl dA pre base nL z.1 z.2.1 z.2.2.1 z.2.2.2.1 (cells + z.2.2.2.2.1) (slots + z.2.2.2.2.2)) : mGo p l e R s m args below meth c Q D cl dA pre base nL pc ls st h cells slots := by
  obtain ⟨a, b, r, rfl, hz⟩ := s2i_ok hz
  cases okk_ok hz
  subst hnx
  intro lsA H locs hL hR hS hZ
  exact lv_imul X.1 X.2.1 hd (kk lsA H locs hL hR hS hZ)
theorem so_iand  (X : mCx p s m args c D cl dA pre base tyL Ts G cc own nL) (hd : decode cc pc = .ok (.iand, 1)) (hnx : nx = pc + 1) (hz : stepI G M pc (.iand) nx x y ls st h = some (.inl z)) (kk : mGo p l e R s m args below meth c Q D cl dA pre base nL z.1 z.2.1 z.2.2.1 z.2.2.2.1 (cells + z.2.2.2.2.1) (slots + z.2.2.2.2.2)) : mGo p l e R s m args below meth c Q D cl dA pre base nL pc ls st h cells slots := by
  obtain ⟨a, b, r, rfl, hz⟩ := s2i_ok hz
  cases okk_ok hz
  subst hnx
  intro lsA H locs hL hR hS hZ
  exact lv_iand X.1 X.2.1 hd (kk lsA H locs hL hR hS hZ)
theorem so_idiv  (X : mCx p s m args c D cl dA pre base tyL Ts G cc own nL) (hd : decode cc pc = .ok (.idiv, 1)) (hnx : nx = pc + 1) (hz : stepI G M pc (.idiv) nx x y ls st h = some (.inl z)) (kk : mGo p l e R s m args below meth c Q D cl dA pre base nL z.1 z.2.1 z.2.2.1 z.2.2.2.1 (cells + z.2.2.2.2.1) (slots + z.2.2.2.2.2)) : mGo p l e R s m args below meth c Q D cl dA pre base nL pc ls st h cells slots := by
  obtain ⟨a, b, r, rfl, hz⟩ := s2i_ok hz
  obtain ⟨hb0, hz⟩ := ifn_ok hz
  cases okk_ok hz
  subst hnx
  intro lsA H locs hL hR hS hZ
  exact lv_idiv X.1 X.2.1 hd hb0 (kk lsA H locs hL hR hS hZ)
theorem so_irem  (X : mCx p s m args c D cl dA pre base tyL Ts G cc own nL) (hd : decode cc pc = .ok (.irem, 1)) (hnx : nx = pc + 1) (hz : stepI G M pc (.irem) nx x y ls st h = some (.inl z)) (kk : mGo p l e R s m args below meth c Q D cl dA pre base nL z.1 z.2.1 z.2.2.1 z.2.2.2.1 (cells + z.2.2.2.2.1) (slots + z.2.2.2.2.2)) : mGo p l e R s m args below meth c Q D cl dA pre base nL pc ls st h cells slots := by
  obtain ⟨a, b, r, rfl, hz⟩ := s2i_ok hz
  obtain ⟨hb0, hz⟩ := ifn_ok hz
  cases okk_ok hz
  subst hnx
  intro lsA H locs hL hR hS hZ
  exact lv_irem X.1 X.2.1 hd hb0 (kk lsA H locs hL hR hS hZ)
theorem so_ineg  (X : mCx p s m args c D cl dA pre base tyL Ts G cc own nL) (hd : decode cc pc = .ok (.ineg, 1)) (hnx : nx = pc + 1) (hz : stepI G M pc (.ineg) nx x y ls st h = some (.inl z)) (kk : mGo p l e R s m args below meth c Q D cl dA pre base nL z.1 z.2.1 z.2.2.1 z.2.2.2.1 (cells + z.2.2.2.2.1) (slots + z.2.2.2.2.2)) : mGo p l e R s m args below meth c Q D cl dA pre base nL pc ls st h cells slots := by
  obtain ⟨a, r, rfl, hz⟩ := s1i_ok hz
  cases okk_ok hz
  subst hnx
  intro lsA H locs hL hR hS hZ
  exact lv_ineg X.1 X.2.1 hd (kk lsA H locs hL hR hS hZ)
theorem so_i2l  (X : mCx p s m args c D cl dA pre base tyL Ts G cc own nL) (hd : decode cc pc = .ok (.i2l, 1)) (hnx : nx = pc + 1) (hz : stepI G M pc (.i2l) nx x y ls st h = some (.inl z)) (kk : mGo p l e R s m args below meth c Q D cl dA pre base nL z.1 z.2.1 z.2.2.1 z.2.2.2.1 (cells + z.2.2.2.2.1) (slots + z.2.2.2.2.2)) : mGo p l e R s m args below meth c Q D cl dA pre base nL pc ls st h cells slots := by
  obtain ⟨a, r, rfl, hz⟩ := s1i_ok hz
  cases okk_ok hz
  subst hnx
  intro lsA H locs hL hR hS hZ
  exact lv_i2l X.1 X.2.1 hd rfl (kk lsA H locs hL hR hS hZ)
theorem so_i2b  (X : mCx p s m args c D cl dA pre base tyL Ts G cc own nL) (hd : decode cc pc = .ok (.i2b, 1)) (hnx : nx = pc + 1) (hz : stepI G M pc (.i2b) nx x y ls st h = some (.inl z)) (kk : mGo p l e R s m args below meth c Q D cl dA pre base nL z.1 z.2.1 z.2.2.1 z.2.2.2.1 (cells + z.2.2.2.2.1) (slots + z.2.2.2.2.2)) : mGo p l e R s m args below meth c Q D cl dA pre base nL pc ls st h cells slots := by
  obtain ⟨a, r, rfl, hz⟩ := s1i_ok hz
  cases okk_ok hz
  subst hnx
  intro lsA H locs hL hR hS hZ
  exact lv_i2b X.1 X.2.1 hd rfl (kk lsA H locs hL hR hS hZ)
theorem so_l2i  (X : mCx p s m args c D cl dA pre base tyL Ts G cc own nL) (hd : decode cc pc = .ok (.l2i, 1)) (hnx : nx = pc + 1) (hz : stepI G M pc (.l2i) nx x y ls st h = some (.inl z)) (kk : mGo p l e R s m args below meth c Q D cl dA pre base nL z.1 z.2.1 z.2.2.1 z.2.2.2.1 (cells + z.2.2.2.2.1) (slots + z.2.2.2.2.2)) : mGo p l e R s m args below meth c Q D cl dA pre base nL pc ls st h cells slots := by
  obtain ⟨a, r, rfl, hz⟩ := s1l_ok hz
  cases okk_ok hz
  subst hnx
  intro lsA H locs hL hR hS hZ
  exact lv_l2i X.1 X.2.1 hd rfl (kk lsA H locs hL hR hS hZ)
theorem so_ladd  (X : mCx p s m args c D cl dA pre base tyL Ts G cc own nL) (hd : decode cc pc = .ok (.ladd, 1)) (hnx : nx = pc + 1) (hz : stepI G M pc (.ladd) nx x y ls st h = some (.inl z)) (kk : mGo p l e R s m args below meth c Q D cl dA pre base nL z.1 z.2.1 z.2.2.1 z.2.2.2.1 (cells + z.2.2.2.2.1) (slots + z.2.2.2.2.2)) : mGo p l e R s m args below meth c Q D cl dA pre base nL pc ls st h cells slots := by
  obtain ⟨a, b, r, rfl, hz⟩ := s2l_ok hz
  cases okk_ok hz
  subst hnx
  intro lsA H locs hL hR hS hZ
  exact lv_ladd X.1 X.2.1 hd (kk lsA H locs hL hR hS hZ)
theorem so_lmul  (X : mCx p s m args c D cl dA pre base tyL Ts G cc own nL) (hd : decode cc pc = .ok (.lmul, 1)) (hnx : nx = pc + 1) (hz : stepI G M pc (.lmul) nx x y ls st h = some (.inl z)) (kk : mGo p l e R s m args below meth c Q D cl dA pre base nL z.1 z.2.1 z.2.2.1 z.2.2.2.1 (cells + z.2.2.2.2.1) (slots + z.2.2.2.2.2)) : mGo p l e R s m args below meth c Q D cl dA pre base nL pc ls st h cells slots := by
  obtain ⟨a, b, r, rfl, hz⟩ := s2l_ok hz
  cases okk_ok hz
  subst hnx
  intro lsA H locs hL hR hS hZ
  exact lv_lmul X.1 X.2.1 hd (kk lsA H locs hL hR hS hZ)
theorem so_ldiv  (X : mCx p s m args c D cl dA pre base tyL Ts G cc own nL) (hd : decode cc pc = .ok (.ldiv, 1)) (hnx : nx = pc + 1) (hz : stepI G M pc (.ldiv) nx x y ls st h = some (.inl z)) (kk : mGo p l e R s m args below meth c Q D cl dA pre base nL z.1 z.2.1 z.2.2.1 z.2.2.2.1 (cells + z.2.2.2.2.1) (slots + z.2.2.2.2.2)) : mGo p l e R s m args below meth c Q D cl dA pre base nL pc ls st h cells slots := by
  obtain ⟨a, b, r, rfl, hz⟩ := s2l_ok hz
  obtain ⟨hb0, hz⟩ := ifn_ok hz
  cases okk_ok hz
  subst hnx
  intro lsA H locs hL hR hS hZ
  exact lv_ldiv X.1 X.2.1 hd hb0 (kk lsA H locs hL hR hS hZ)
theorem so_lrem  (X : mCx p s m args c D cl dA pre base tyL Ts G cc own nL) (hd : decode cc pc = .ok (.lrem, 1)) (hnx : nx = pc + 1) (hz : stepI G M pc (.lrem) nx x y ls st h = some (.inl z)) (kk : mGo p l e R s m args below meth c Q D cl dA pre base nL z.1 z.2.1 z.2.2.1 z.2.2.2.1 (cells + z.2.2.2.2.1) (slots + z.2.2.2.2.2)) : mGo p l e R s m args below meth c Q D cl dA pre base nL pc ls st h cells slots := by
  obtain ⟨a, b, r, rfl, hz⟩ := s2l_ok hz
  obtain ⟨hb0, hz⟩ := ifn_ok hz
  cases okk_ok hz
  subst hnx
  intro lsA H locs hL hR hS hZ
  exact lv_lrem X.1 X.2.1 hd hb0 (kk lsA H locs hL hR hS hZ)
theorem so_lneg  (X : mCx p s m args c D cl dA pre base tyL Ts G cc own nL) (hd : decode cc pc = .ok (.lneg, 1)) (hnx : nx = pc + 1) (hz : stepI G M pc (.lneg) nx x y ls st h = some (.inl z)) (kk : mGo p l e R s m args below meth c Q D cl dA pre base nL z.1 z.2.1 z.2.2.1 z.2.2.2.1 (cells + z.2.2.2.2.1) (slots + z.2.2.2.2.2)) : mGo p l e R s m args below meth c Q D cl dA pre base nL pc ls st h cells slots := by
  obtain ⟨a, r, rfl, hz⟩ := s1l_ok hz
  cases okk_ok hz
  subst hnx
  intro lsA H locs hL hR hS hZ
  exact lv_lneg X.1 X.2.1 hd (kk lsA H locs hL hR hS hZ)
theorem so_lcmp  (X : mCx p s m args c D cl dA pre base tyL Ts G cc own nL) (hd : decode cc pc = .ok (.lcmp, 1)) (hnx : nx = pc + 1) (hz : stepI G M pc (.lcmp) nx x y ls st h = some (.inl z)) (kk : mGo p l e R s m args below meth c Q D cl dA pre base nL z.1 z.2.1 z.2.2.1 z.2.2.2.1 (cells + z.2.2.2.2.1) (slots + z.2.2.2.2.2)) : mGo p l e R s m args below meth c Q D cl dA pre base nL pc ls st h cells slots := by
  obtain ⟨a, b, r, rfl, hz⟩ := s2l_ok hz
  cases okk_ok hz
  subst hnx
  intro lsA H locs hL hR hS hZ
  exact W.lcmp X.1 X.2.1 hd (kk lsA H locs hL hR hS hZ)
theorem cat1_ok {v : Value} {pre : Nat → Nat} {base : Nat} (h : cat1 v = true) : (emv pre base v).category = 1 := by
  cases v <;> first | rfl | cases h
theorem so_dup  (X : mCx p s m args c D cl dA pre base tyL Ts G cc own nL) (hd : decode cc pc = .ok (.dup, 1)) (hnx : nx = pc + 1) (hz : stepI G M pc (.dup) nx x y ls st h = some (.inl z)) (kk : mGo p l e R s m args below meth c Q D cl dA pre base nL z.1 z.2.1 z.2.2.1 z.2.2.2.1 (cells + z.2.2.2.2.1) (slots + z.2.2.2.2.2)) : mGo p l e R s m args below meth c Q D cl dA pre base nL pc ls st h cells slots := by
  obtain ⟨v, r, rfl, hz⟩ := s1_ok hz
  obtain ⟨h1, hz⟩ := if_ok hz
  cases okk_ok hz
  subst hnx
  intro lsA H locs hL hR hS hZ
  exact lv_dup X.1 X.2.1 hd (cat1_ok h1) (kk lsA H locs hL hR hS hZ)
theorem so_pop  (X : mCx p s m args c D cl dA pre base tyL Ts G cc own nL) (hd : decode cc pc = .ok (.pop, 1)) (hnx : nx = pc + 1) (hz : stepI G M pc (.pop) nx x y ls st h = some (.inl z)) (kk : mGo p l e R s m args below meth c Q D cl dA pre base nL z.1 z.2.1 z.2.2.1 z.2.2.2.1 (cells + z.2.2.2.2.1) (slots + z.2.2.2.2.2)) : mGo p l e R s m args below meth c Q D cl dA pre base nL pc ls st h cells slots := by
  obtain ⟨v, r, rfl, hz⟩ := s1_ok hz
  obtain ⟨h1, hz⟩ := if_ok hz
  cases okk_ok hz
  subst hnx
  intro lsA H locs hL hR hS hZ
  exact lv_pop X.1 X.2.1 hd (cat1_ok h1) (kk lsA H locs hL hR hS hZ)
theorem so_dup_x1  (X : mCx p s m args c D cl dA pre base tyL Ts G cc own nL) (hd : decode cc pc = .ok (.dup_x1, 1)) (hnx : nx = pc + 1) (hz : stepI G M pc (.dup_x1) nx x y ls st h = some (.inl z)) (kk : mGo p l e R s m args below meth c Q D cl dA pre base nL z.1 z.2.1 z.2.2.1 z.2.2.2.1 (cells + z.2.2.2.2.1) (slots + z.2.2.2.2.2)) : mGo p l e R s m args below meth c Q D cl dA pre base nL pc ls st h cells slots := by
  obtain ⟨v, r, rfl, hz⟩ := s1_ok hz
  obtain ⟨w, r, rfl, hz⟩ := s1_ok hz
  obtain ⟨h1, hz⟩ := if_ok hz
  simp only [Bool.and_eq_true] at h1
  cases okk_ok hz
  subst hnx
  intro lsA H locs hL hR hS hZ
  exact lv_dup_x1 X.1 X.2.1 hd (cat1_ok h1.1) (cat1_ok h1.2) (kk lsA H locs hL hR hS hZ)
theorem so_dup2  (X : mCx p s m args c D cl dA pre base tyL Ts G cc own nL) (hd : decode cc pc = .ok (.dup2, 1)) (hnx : nx = pc + 1) (hz : stepI G M pc (.dup2) nx x y ls st h = some (.inl z)) (kk : mGo p l e R s m args below meth c Q D cl dA pre base nL z.1 z.2.1 z.2.2.1 z.2.2.2.1 (cells + z.2.2.2.2.1) (slots + z.2.2.2.2.2)) : mGo p l e R s m args below meth c Q D cl dA pre base nL pc ls st h cells slots := by
  obtain ⟨v, r, rfl, hz⟩ := s1_ok hz
  obtain ⟨w, r, rfl, hz⟩ := s1_ok hz
  obtain ⟨h1, hz⟩ := if_ok hz
  simp only [Bool.and_eq_true] at h1
  cases okk_ok hz
  subst hnx
  intro lsA H locs hL hR hS hZ
  exact lv_dup2_11 X.1 X.2.1 hd (cat1_ok h1.1) (cat1_ok h1.2) (kk lsA H locs hL hR hS hZ)
theorem so_goto {off : Int} (X : mCx p s m args c D cl dA pre base tyL Ts G cc own nL) (hd : decode cc pc = .ok (.goto off, 3)) (hnx : nx = pc + 3) (ht : (pc : Int) + off = (x : Int)) (hz : stepI G M pc (.goto off) nx x y ls st h = some (.inl z)) (kk : mGo p l e R s m args below meth c Q D cl dA pre base nL z.1 z.2.1 z.2.2.1 z.2.2.2.1 (cells + z.2.2.2.2.1) (slots + z.2.2.2.2.2)) : mGo p l e R s m args below meth c Q D cl dA pre base nL pc ls st h cells slots := by
  cases okk_ok hz
  intro lsA H locs hL hR hS hZ
  exact lv_goto X.1 X.2.1 hd ht (kk lsA H locs hL hR hS hZ)
theorem so_ifnull {off : Int} (X : mCx p s m args c D cl dA pre base tyL Ts G cc own nL) (hd : decode cc pc = .ok (.ifnull off, 3)) (hnx : nx = pc + 3) (ht : (pc : Int) + off = (x : Int)) (hz : stepI G M pc (.ifnull off) nx x y ls st h = some (.inl z)) (kk : mGo p l e R s m args below meth c Q D cl dA pre base nL z.1 z.2.1 z.2.2.1 z.2.2.2.1 (cells + z.2.2.2.2.1) (slots + z.2.2.2.2.2)) : mGo p l e R s m args below meth c Q D cl dA pre base nL pc ls st h cells slots := by
  obtain ⟨v, r, rfl, hz⟩ := s1_ok hz
  cases v with
  | null =>
    cases okk_ok hz
    intro lsA H locs hL hR hS hZ
    exact lv_ifnullN X.1 X.2.1 hd ht (kk lsA H locs hL hR hS hZ)
  | ref a =>
    cases okk_ok hz
    subst hnx
    intro lsA H locs hL hR hS hZ
    exact lv_ifnull X.1 X.2.1 hd (kk lsA H locs hL hR hS hZ)
  | _ => cases hz
theorem so_ifnonnull {off : Int} (X : mCx p s m args c D cl dA pre base tyL Ts G cc own nL) (hd : decode cc pc = .ok (.ifnonnull off, 3)) (hnx : nx = pc + 3) (ht : (pc : Int) + off = (x : Int)) (hz : stepI G M pc (.ifnonnull off) nx x y ls st h = some (.inl z)) (kk : mGo p l e R s m args below meth c Q D cl dA pre base nL z.1 z.2.1 z.2.2.1 z.2.2.2.1 (cells + z.2.2.2.2.1) (slots + z.2.2.2.2.2)) : mGo p l e R s m args below meth c Q D cl dA pre base nL pc ls st h cells slots := by
  obtain ⟨v, r, rfl, hz⟩ := s1_ok hz
  cases v with
  | null =>
    cases okk_ok hz
    subst hnx
    intro lsA H locs hL hR hS hZ
    exact lv_ifnonnullN X.1 X.2.1 hd (kk lsA H locs hL hR hS hZ)
  | ref a =>
    cases okk_ok hz
    intro lsA H locs hL hR hS hZ
    exact lv_ifnonnull X.1 X.2.1 hd ht (kk lsA H locs hL hR hS hZ)
  | _ => cases hz
theorem rfo_ok {v : Value} {a : Option Nat} {pre : Nat → Nat} {base : Nat} (h : rfo v = some a) : emv pre base v = va_rf (a.map (mad pre base)) := by
  cases v <;> first | (cases h; rfl) | cases h
theorem mad_inj {pre : Nat → Nat} {base a b : Nat} (ha : 64 ≤ a) (hb : 64 ≤ b) (h : mad pre base a = mad pre base b) : a = b := by
  unfold mad at h
  rw [if_neg (by omega), if_neg (by omega)] at h
  omega
theorem big_inj {pre : Nat → Nat} {base : Nat} {a b : Option Nat} (ha : big a = true) (hb : big b = true) (h : a.map (mad pre base) = b.map (mad pre base)) : a = b := by
  cases a with
  | none => cases b with
    | none => rfl
    | some b => cases h
  | some a => cases b with
    | none => cases h
    | some b =>
      simp [big] at ha hb
      rw [mad_inj ha hb (Option.some.inj h)]
theorem so_acmp_eq {off : Int} (X : mCx p s m args c D cl dA pre base tyL Ts G cc own nL) (hd : decode cc pc = .ok (.if_acmp .eq off, 3)) (hnx : nx = pc + 3) (ht : (pc : Int) + off = (x : Int)) (hz : stepI G M pc (.if_acmp .eq off) nx x y ls st h = some (.inl z)) (kk : mGo p l e R s m args below meth c Q D cl dA pre base nL z.1 z.2.1 z.2.2.1 z.2.2.2.1 (cells + z.2.2.2.2.1) (slots + z.2.2.2.2.2)) : mGo p l e R s m args below meth c Q D cl dA pre base nL pc ls st h cells slots := by
  obtain ⟨v, r1, rfl, hz1⟩ := s1_ok hz
  obtain ⟨w, r, rfl, hz2⟩ := s1_ok hz1
  clear hz hz1
  cases hv : rfo v with
  | none => rw [hv] at hz2; cases hz2
  | some a =>
    cases hw : rfo w with
    | none => rw [hv, hw] at hz2; cases hz2
    | some b =>
      rw [hv, hw] at hz2
      obtain ⟨h1, hz⟩ := if_ok hz2
      simp only [Bool.and_eq_true] at h1
      cases okk_ok hz
      subst hnx
      intro lsA H locs hL hR hS hZ
      have k2 := kk lsA H locs hL hR hS hZ
      rw [List.map_cons, List.map_cons, rfo_ok hv, rfo_ok hw]
      refine lv_acmp_eq X.1 X.2.1 hd ht (fun q => ?_) (fun q => ?_)
      · have q2 := big_inj h1.2 h1.1 q
        simp only [if_pos q2] at k2
        exact k2
      · have q2 : ¬ b = a := fun q2 => q (by rw [q2])
        simp only [if_neg q2] at k2
        exact k2
theorem so_acmp_ne {off : Int} (X : mCx p s m args c D cl dA pre base tyL Ts G cc own nL) (hd : decode cc pc = .ok (.if_acmp .ne off, 3)) (hnx : nx = pc + 3) (ht : (pc : Int) + off = (x : Int)) (hz : stepI G M pc (.if_acmp .ne off) nx x y ls st h = some (.inl z)) (kk : mGo p l e R s m args below meth c Q D cl dA pre base nL z.1 z.2.1 z.2.2.1 z.2.2.2.1 (cells + z.2.2.2.2.1) (slots + z.2.2.2.2.2)) : mGo p l e R s m args below meth c Q D cl dA pre base nL pc ls st h cells slots := by
  obtain ⟨v, r1, rfl, hz1⟩ := s1_ok hz
  obtain ⟨w, r, rfl, hz2⟩ := s1_ok hz1
  clear hz hz1
  cases hv : rfo v with
  | none => rw [hv] at hz2; cases hz2
  | some a =>
    cases hw : rfo w with
    | none => rw [hv, hw] at hz2; cases hz2
    | some b =>
      rw [hv, hw] at hz2
      obtain ⟨h1, hz⟩ := if_ok hz2
      simp only [Bool.and_eq_true] at h1
      cases okk_ok hz
      subst hnx
      intro lsA H locs hL hR hS hZ
      have k2 := kk lsA H locs hL hR hS hZ
      rw [List.map_cons, List.map_cons, rfo_ok hv, rfo_ok hw]
      refine lv_acmp_ne X.1 X.2.1 hd ht (fun q => ?_) (fun q => ?_)
      · have q2 : ¬ b = a := fun q2 => q (by rw [q2])
        simp only [if_neg q2] at k2
        exact k2
      · have q2 := big_inj h1.2 h1.1 q
        simp only [if_pos q2] at k2
        exact k2
end SO
end
section
/-! Fields, rows, new cells: a step of the small machine is a step of the machine. -/
def mKl (cl : List vw_C) (Ts : List Cond) (G : GI) (x : Nat) (C : String) (T : u_T) (N : Nat) : Prop :=
  cl[x]? = some (C, T, N) ∧ (∀ w ∈ u_ws C T N, w ∈ Ts) ∧ (∀ k, k < N → (T k).1 = C ∧ parseFieldDescriptor (T k).2.2.1 = some (G.2.2.2.2.1 x k)) ∧ (∀ a, a < N → ∀ b, b < N → a ≠ b → (T a).2.1 ≠ (T b).2.1) ∧
  (G.2.2.2.1 x).length = N ∧ (∀ j, j < N → defaultValue (G.2.2.2.2.1 x j) = vp_V (G.2.2.2.1 x) j) ∧ (∀ v ∈ G.2.2.2.1 x, ∀ a, v ≠ .ref a) ∧ Cond.instantiable C N ∈ Ts ∧ Cond.initialized C ∈ Ts
theorem mR_put {D : va_G} {cl : List vw_C} {dA : Nat → ClassId} {pre : Nat → Nat} {base : Nat} {h : MH} {H H1 : Heap} (hR : mR D cl dA pre base h H) {a : Nat} {e0 e : ME} (hg : mget h a = some e0) (hP : va_P D cl ((mws dA pre base h).set (a - 64) (mad pre base a, emE dA pre base e)) H1) (z : H1.size = H.size) : mR D cl dA pre base (mput h a e) H1 := by
  refine ⟨mput_ok hR.1 a e, by rw [mws_put hR.1 hg]; exact hP, ?_⟩
  rw [z, hR.2.2]
  simp [mput]
theorem emv_nr {pre : Nat → Nat} {base : Nat} {v : Value} (h : ∀ a, v ≠ .ref a) : emv pre base v = v := by
  cases v with
  | ref a => exact absurd rfl (h a)
  | _ => rfl
section SO
variable {p : Program} {l : Launch} {e : Env} {R : Room} {s : State} {m : MethodId} {args : Array Value} {below : List Frame} {meth : Method} {c : Code} {Q : State → Prop}
variable {D : va_G} {cl : List vw_C} {dA : Nat → ClassId} {pre : Nat → Nat} {base : Nat} {tyL : List FieldType} {Ts : List Cond} {G : GI} {cc : ByteArray} {own : String} {nL : Nat}
variable {M pc nx x y : Nat} {ls : ML} {st : List Value} {h : MH} {cells slots : Nat} {z : Nat × ML × List Value × MH × Nat × Nat}
/-- behind a row that changes a cell: the heap is as large as before, by what the machine counts -/
theorem mSz {H H1 : Heap} {locs : List Loc} {g : JFrame} (hZ : s.heap.size + cells = H.size) (hle : H.size ≤ H1.size) (k : H1.size = H.size → W p l e R s m args below meth c H1 locs cells slots Q g) : W p l e R s m args below meth c H1 locs cells slots Q g := by
  intro T hT X
  have h1 := X.heapSize
  rw [hT] at h1
  exact k (by omega) T hT X
/-- what isn't ours stays, told from where we are -/
theorem mS_tr {A : Nat → Prop} {H0 H H1 : Heap} {locs locs1 : List Loc} (h : va_S A H0 H locs) (h1 : va_S A H H1 locs1) : va_S A H0 H1 locs1 :=
  ⟨Nat.le_trans h.1 h1.1, fun q a b => (h1.2.1 q (Nat.lt_of_lt_of_le a h.1) b).trans (h.2.1 q a b), h1.2.2⟩
theorem mS_rf {A : Nat → Prop} {H0 H : Heap} {locs : List Loc} (h : va_S A H0 H locs) : va_S A H H locs := ⟨Nat.le_refl _, fun _ _ _ => rfl, h.2.2⟩
theorem so_getfield {idx N : Nat} {C : String} {T : u_T} (X : mCx p s m args c D cl dA pre base tyL Ts G cc own nL) (hd : decode cc pc = .ok (.getfield idx, 3)) (hnx : nx = pc + 3) (hk : mKl cl Ts G x C T N) (hy : y < N) (hlink : Cond.fieldLink own idx C (T y).2.1 (T y).2.2.1 ∈ Ts) (hz : stepI G M pc (.getfield idx) nx x y ls st h = some (.inl z)) (kk : mGo p l e R s m args below meth c Q D cl dA pre base nL z.1 z.2.1 z.2.2.1 z.2.2.2.1 (cells + z.2.2.2.2.1) (slots + z.2.2.2.2.2)) : mGo p l e R s m args below meth c Q D cl dA pre base nL pc ls st h cells slots := by
  obtain ⟨a, r, rfl, hz1⟩ := s1r_ok hz
  clear hz
  cases hg : mget h a with
  | none => rw [hg] at hz1; cases hz1
  | some w =>
    rw [hg] at hz1
    rcases w with w | ⟨ci, fs⟩
    · cases hz1
    · obtain ⟨hc, hz2⟩ := if_ok hz1
      subst hc
      cases hv : fs[y]? with
      | none => rw [hv] at hz2; cases hz2
      | some v =>
        rw [hv] at hz2
        cases okk_ok hz2
        subst hnx
        intro lsA H locs hL hR hS hZ
        exact va_get X.1 X.2.1 X.2.2.2.2.1 hk.2.1 X.2.2.2.1 X.2.2.2.2.2.1 hR.2.1 (a - 64) (mws_get hR.1 hg) hk.1 y hy (X.2.2.2.2.1 _ hlink) (fun q hq => by rw [(hk.2.2.1 y hy).1] at hq; exact hq) (v := emv pre base v) (by rw [List.getElem?_map, hv]; rfl) hd (kk lsA H locs hL hR hS hZ)
theorem so_putfield {idx N : Nat} {C : String} {T : u_T} (X : mCx p s m args c D cl dA pre base tyL Ts G cc own nL) (hd : decode cc pc = .ok (.putfield idx, 3)) (hnx : nx = pc + 3) (hk : mKl cl Ts G x C T N) (hy : y < N) (hlink : Cond.fieldLink own idx C (T y).2.1 (T y).2.2.1 ∈ Ts) (hfin : (T y).2.2.2 = false ∨ ((T y).2.2.2 = true ∧ meth.name = "<init>" ∧ C = own)) (hz : stepI G M pc (.putfield idx) nx x y ls st h = some (.inl z)) (kk : mGo p l e R s m args below meth c Q D cl dA pre base nL z.1 z.2.1 z.2.2.1 z.2.2.2.1 (cells + z.2.2.2.2.1) (slots + z.2.2.2.2.2)) : mGo p l e R s m args below meth c Q D cl dA pre base nL pc ls st h cells slots := by
  obtain ⟨v, r1, rfl, hz1⟩ := s1_ok hz
  obtain ⟨a, r, rfl, hz2⟩ := s1r_ok hz1
  clear hz hz1
  cases hg : mget h a with
  | none => rw [hg] at hz2; cases hz2
  | some w =>
    rw [hg] at hz2
    rcases w with w | ⟨ci, fs⟩
    · cases hz2
    · obtain ⟨hc, hz3⟩ := if_ok hz2
      simp only [Bool.and_eq_true, decide_eq_true_eq] at hc
      obtain ⟨⟨hci, hfit⟩, hlt⟩ := hc
      subst hci
      cases okk_ok hz3
      subst hnx
      intro lsA H locs hL hR hS hZ
      obtain ⟨hn, hf⟩ := fitB_ok (pre := pre) (base := base) hfit
      have hSH := mS_rf hS
      have fin : ∀ (H1 : Heap) (locs1 : List Loc), va_P D cl ((mws dA pre base h).set (a - 64) (mad pre base a, .inr (ci, (fs.map (emv pre base)).set y (emv pre base v)))) H1 → va_D (fun q => base ≤ q) ((mws dA pre base h).set (a - 64) (mad pre base a, .inr (ci, (fs.map (emv pre base)).set y (emv pre base v)))) → va_S (fun q => base ≤ q) H H1 locs1 → W p l e R s m args below meth c H1 locs1 cells slots Q (F0 m (pc + 3) lsA (r.map (emv pre base))) := fun H1 locs1 g1 g2 g3 => mSz hZ g3.1 fun z => kk lsA H1 locs1 hL (mR_put hR hg (by rw [show emE dA pre base (.inr (ci, fs.set y v)) = .inr (ci, (fs.map (emv pre base)).set y (emv pre base v)) from congrArg (fun q => Sum.inr (ci, q)) List.map_set]; exact g1) z) (mS_tr hS g3) (by rw [z]; exact hZ)
      rcases hfin with hfin | ⟨hfin, hin2, hown2⟩
      · exact va_put X.1 X.2.1 X.2.2.2.2.1 hk.2.1 (G.2.2.2.2.1 ci) (fun k q => (hk.2.2.1 k q).2) hk.2.2.2.1 X.2.2.2.1 X.2.2.2.2.2.1 hR.2.1 (mws_D h) hSH (a - 64) (mws_get hR.1 hg) hk.1 y hy (X.2.2.2.2.1 _ hlink) (fun q hq => by rw [(hk.2.2.1 y hy).1] at hq; exact hq) hfin (hk.2.2.1 y hy).2 hn hf (by rw [List.length_map]; exact hlt) hd fin
      · exact va_putF X.1 X.2.1 X.2.2.2.2.1 hk.2.1 (G.2.2.2.2.1 ci) (fun k q => (hk.2.2.1 k q).2) hk.2.2.2.1 X.2.2.2.1 X.2.2.2.2.2.1 hR.2.1 (mws_D h) hSH (a - 64) (mws_get hR.1 hg) hk.1 y hy (X.2.2.2.2.1 _ hlink) (fun q hq => by rw [(hk.2.2.1 y hy).1] at hq; exact hq) hfin hin2 ((hk.2.2.1 y hy).1.trans hown2) (hk.2.2.1 y hy).2 hn hf (by rw [List.length_map]; exact hlt) hd fin
theorem irow_ok {G : GI} {h : MH} {a t n : Nat} {f : Nat → Int32} (e : irow G h a t = some (n, f)) : (a < 8 ∧ t = 0 ∧ G.2.2.1 a = some (n, f)) ∨ mget h a = some (.inl (t, n, .inl f)) := by
  unfold irow at e
  by_cases h8 : a < 8
  · rw [if_pos h8] at e
    obtain ⟨h1, h2⟩ := if_ok e
    exact Or.inl ⟨h8, h1, h2⟩
  · rw [if_neg h8] at e
    cases hg : mget h a with
    | none => rw [hg] at e; cases e
    | some w =>
      rw [hg] at e
      rcases w with ⟨ti, n', f' | f'⟩ | w
      · obtain ⟨h1, h2⟩ := if_ok e
        subst h1
        cases h2
        exact Or.inr rfl
      · cases e
      · cases e
theorem mExt (X : mCx p s m args c D cl dA pre base tyL Ts G cc own nL) {a n : Nat} {f : Nat → Int32} (hg : G.2.2.1 a = some (n, f)) (h8 : a < 8) : va_X (pre a) n f s s.heap ∧ pre a < s.heap.size ∧ ¬ base ≤ pre a := by
  obtain ⟨h1, h2⟩ := X.2.2.2.2.2.2.2 a n f hg h8
  exact ⟨h1, Nat.lt_of_lt_of_le h2 X.2.2.2.2.2.2.1, Nat.not_le.mpr h2⟩
theorem so_iaload  (X : mCx p s m args c D cl dA pre base tyL Ts G cc own nL) (hd : decode cc pc = .ok (.iaload, 1)) (hnx : nx = pc + 1) (hty : tyL[0]? = some .int) (hz : stepI G M pc (.iaload) nx x y ls st h = some (.inl z)) (kk : mGo p l e R s m args below meth c Q D cl dA pre base nL z.1 z.2.1 z.2.2.1 z.2.2.2.1 (cells + z.2.2.2.2.1) (slots + z.2.2.2.2.2)) : mGo p l e R s m args below meth c Q D cl dA pre base nL pc ls st h cells slots := by
  obtain ⟨i, r1, rfl, hz1⟩ := s1i_ok hz
  obtain ⟨a, r, rfl, hz2⟩ := s1r_ok hz1
  clear hz hz1
  cases hg : irow G h a 0 with
  | none => rw [hg] at hz2; cases hz2
  | some w =>
    obtain ⟨n, f⟩ := w
    rw [hg] at hz2
    obtain ⟨hv, hz3⟩ := if_ok hz2
    cases okk_ok hz3
    subst hnx
    intro lsA H locs hL hR hS hZ
    rcases irow_ok hg with ⟨h8, -, he⟩ | hg
    · obtain ⟨g1, g2, g3⟩ := mExt X he h8
      have hm : mad pre base a = pre a := by unfold mad; rw [if_pos (Nat.lt_of_lt_of_le h8 (by decide))]
      show W _ _ _ _ _ _ _ _ _ _ _ _ _ _ _ (F0 m pc lsA (.int i :: .ref (mad pre base a) :: r.map (emv pre base)))
      rw [hm]
      exact va_sld X.1 X.2.1 g1 g2 g3 hS (vin_ok hv) hd (kk lsA H locs hL hR hS hZ)
    · exact va_iald X.1 X.2.1 X.2.2.2.2.2.1 hR.2.1 (a - 64) 0 (mws_get hR.1 hg) (mty_at hty) (vin_ok hv) hd (kk lsA H locs hL hR hS hZ)
theorem so_bald  (X : mCx p s m args c D cl dA pre base tyL Ts G cc own nL) (hd : decode cc pc = .ok (.baload, 1)) (hnx : nx = pc + 1) (hx0 : ¬ x = 0) (hty : tyL[x]? = some .byte) (hz : stepI G M pc (.baload) nx x y ls st h = some (.inl z)) (kk : mGo p l e R s m args below meth c Q D cl dA pre base nL z.1 z.2.1 z.2.2.1 z.2.2.2.1 (cells + z.2.2.2.2.1) (slots + z.2.2.2.2.2)) : mGo p l e R s m args below meth c Q D cl dA pre base nL pc ls st h cells slots := by
  obtain ⟨i, r1, rfl, hz1⟩ := s1i_ok hz
  obtain ⟨a, r, rfl, hz2⟩ := s1r_ok hz1
  clear hz hz1
  cases hg : irow G h a x with
  | none => rw [hg] at hz2; cases hz2
  | some w =>
    obtain ⟨n, f⟩ := w
    rw [hg] at hz2
    obtain ⟨hv, hz3⟩ := if_ok hz2
    cases okk_ok hz3
    subst hnx
    intro lsA H locs hL hR hS hZ
    rcases irow_ok hg with ⟨-, h0, -⟩ | hg
    · exact absurd h0 hx0
    · exact va_bald X.1 X.2.1 X.2.2.2.2.2.1 hR.2.1 (a - 64) x (mws_get hR.1 hg) (mty_at hty) (vin_ok hv) hd (kk lsA H locs hL hR hS hZ)
theorem so_zald  (X : mCx p s m args c D cl dA pre base tyL Ts G cc own nL) (hd : decode cc pc = .ok (.baload, 1)) (hnx : nx = pc + 1) (hx0 : ¬ x = 0) (hty : tyL[x]? = some .boolean) (hz : stepI G M pc (.baload) nx x y ls st h = some (.inl z)) (kk : mGo p l e R s m args below meth c Q D cl dA pre base nL z.1 z.2.1 z.2.2.1 z.2.2.2.1 (cells + z.2.2.2.2.1) (slots + z.2.2.2.2.2)) : mGo p l e R s m args below meth c Q D cl dA pre base nL pc ls st h cells slots := by
  obtain ⟨i, r1, rfl, hz1⟩ := s1i_ok hz
  obtain ⟨a, r, rfl, hz2⟩ := s1r_ok hz1
  clear hz hz1
  cases hg : irow G h a x with
  | none => rw [hg] at hz2; cases hz2
  | some w =>
    obtain ⟨n, f⟩ := w
    rw [hg] at hz2
    obtain ⟨hv, hz3⟩ := if_ok hz2
    cases okk_ok hz3
    subst hnx
    intro lsA H locs hL hR hS hZ
    rcases irow_ok hg with ⟨-, h0, -⟩ | hg
    · exact absurd h0 hx0
    · exact va_zald X.1 X.2.1 X.2.2.2.2.2.1 hR.2.1 (a - 64) x (mws_get hR.1 hg) (mty_at hty) (vin_ok hv) hd (kk lsA H locs hL hR hS hZ)
def mTL (tyL : List FieldType) : Prop := tyL[0]? = some .int ∧ tyL[1]? = some .byte ∧ tyL[2]? = some .boolean ∧ ∀ ti, 3 ≤ ti → ti < 8 → ∃ C, tyL[ti]? = some (.object C)
theorem mTL_at {tyL : List FieldType} (h : mTL tyL) {ti : Nat} (h8 : ti < 8) : ∃ ty, tyL[ti]? = some ty := by
  by_cases h3 : 3 ≤ ti
  · obtain ⟨C, hC⟩ := h.2.2.2 ti h3 h8
    exact ⟨_, hC⟩
  · rcases (show ti = 0 ∨ ti = 1 ∨ ti = 2 by omega) with rfl | rfl | rfl
    · exact ⟨_, h.1⟩
    · exact ⟨_, h.2.1⟩
    · exact ⟨_, h.2.2.1⟩
theorem so_aaload  (X : mCx p s m args c D cl dA pre base tyL Ts G cc own nL) (hd : decode cc pc = .ok (.aaload, 1)) (hnx : nx = pc + 1) (hTL : mTL tyL) (hz : stepI G M pc (.aaload) nx x y ls st h = some (.inl z)) (kk : mGo p l e R s m args below meth c Q D cl dA pre base nL z.1 z.2.1 z.2.2.1 z.2.2.2.1 (cells + z.2.2.2.2.1) (slots + z.2.2.2.2.2)) : mGo p l e R s m args below meth c Q D cl dA pre base nL pc ls st h cells slots := by
  obtain ⟨i, r1, rfl, hz1⟩ := s1i_ok hz
  obtain ⟨a, r, rfl, hz2⟩ := s1r_ok hz1
  clear hz hz1
  cases hg : mget h a with
  | none => rw [hg] at hz2; cases hz2
  | some w =>
    rw [hg] at hz2
    rcases w with ⟨ti, n, f | f⟩ | w
    · cases hz2
    · obtain ⟨hv, hz3⟩ := if_ok hz2
      simp only [Bool.and_eq_true, decide_eq_true_eq] at hv
      cases okk_ok hz3
      subst hnx
      intro lsA H locs hL hR hS hZ
      have he := mws_get (dA := dA) (pre := pre) (base := base) hR.1 hg
      have k2 := kk lsA H locs hL hR hS hZ
      obtain ⟨C, hC⟩ := hTL.2.2.2 ti hv.2.1 hv.2.2
      refine va_aldq X.1 X.2.1 X.2.2.2.2.2.1 hR.2.1 (a - 64) ti he (mty_at hC) (vin_ok hv.1) hd ?_
      rw [show va_rf (((fun j => (f j).map (mad pre base)) : Nat → Option Nat) i.toNatClampNeg) = emv pre base (va_rf (f i.toNatClampNeg)) from by simp only; cases f i.toNatClampNeg <;> rfl]
      exact k2
    · cases hz2
theorem so_arraylength  (X : mCx p s m args c D cl dA pre base tyL Ts G cc own nL) (hd : decode cc pc = .ok (.arraylength, 1)) (hnx : nx = pc + 1) (hTL : mTL tyL) (hz : stepI G M pc (.arraylength) nx x y ls st h = some (.inl z)) (kk : mGo p l e R s m args below meth c Q D cl dA pre base nL z.1 z.2.1 z.2.2.1 z.2.2.2.1 (cells + z.2.2.2.2.1) (slots + z.2.2.2.2.2)) : mGo p l e R s m args below meth c Q D cl dA pre base nL pc ls st h cells slots := by
  obtain ⟨a, r, rfl, hz1⟩ := s1r_ok hz
  clear hz
  by_cases h8 : a < 8
  · rw [if_pos h8] at hz1
    cases he : G.2.2.1 a with
    | none => rw [he] at hz1; cases hz1
    | some w =>
      obtain ⟨n, f⟩ := w
      rw [he] at hz1
      cases okk_ok hz1
      subst hnx
      intro lsA H locs hL hR hS hZ
      obtain ⟨g1, g2, g3⟩ := mExt X he h8
      have hm : mad pre base a = pre a := by unfold mad; rw [if_pos (Nat.lt_of_lt_of_le h8 (by decide))]
      show W _ _ _ _ _ _ _ _ _ _ _ _ _ _ _ (F0 m pc lsA (.ref (mad pre base a) :: r.map (emv pre base)))
      rw [hm]
      exact va_slen X.1 X.2.1 g1 g2 g3 hS hd (kk lsA H locs hL hR hS hZ)
  · rw [if_neg h8] at hz1
    cases hg : mget h a with
    | none => rw [hg] at hz1; cases hz1
    | some w =>
      rw [hg] at hz1
      rcases w with ⟨ti, n, f⟩ | w
      · obtain ⟨hv, hz3⟩ := if_ok hz1
        cases okk_ok hz3
        subst hnx
        intro lsA H locs hL hR hS hZ
        obtain ⟨ty, hty⟩ := mTL_at hTL hv
        exact va_alen X.1 X.2.1 X.2.2.2.2.2.1 hR.2.1 (a - 64) ti (mws_get hR.1 hg) (mty_at hty) rfl hd (kk lsA H locs hL hR hS hZ)
      · cases hz1
theorem so_iastore  (X : mCx p s m args c D cl dA pre base tyL Ts G cc own nL) (hd : decode cc pc = .ok (.iastore, 1)) (hnx : nx = pc + 1) (hTL : mTL tyL) (hz : stepI G M pc (.iastore) nx x y ls st h = some (.inl z)) (kk : mGo p l e R s m args below meth c Q D cl dA pre base nL z.1 z.2.1 z.2.2.1 z.2.2.2.1 (cells + z.2.2.2.2.1) (slots + z.2.2.2.2.2)) : mGo p l e R s m args below meth c Q D cl dA pre base nL pc ls st h cells slots := by
  obtain ⟨v, r1, rfl, hz1⟩ := s1i_ok hz
  obtain ⟨i, r2, rfl, hz2⟩ := s1i_ok hz1
  obtain ⟨a, r, rfl, hz3⟩ := s1r_ok hz2
  clear hz hz1 hz2
  cases hg : mget h a with
  | none => rw [hg] at hz3; cases hz3
  | some w =>
    rw [hg] at hz3
    rcases w with ⟨ti, n, f | f⟩ | w
    · obtain ⟨hv, hz4⟩ := if_ok hz3
      simp only [Bool.and_eq_true, decide_eq_true_eq] at hv
      obtain ⟨h0, hv⟩ := hv
      subst h0
      cases okk_ok hz4
      subst hnx
      intro lsA H locs hL hR hS hZ
      have hSH := mS_rf hS
      exact va_iast X.1 X.2.1 X.2.2.2.2.2.1 hR.2.1 (mws_D h) hSH (a - 64) 0 (mws_get hR.1 hg) (mty_at hTL.1) (vin_ok hv) hd (fun H1 locs1 g1 g2 g3 => mSz hZ g3.1 fun z => kk lsA H1 locs1 hL (mR_put hR hg (by exact g1) z) (mS_tr hS g3) (by rw [z]; exact hZ))
    · cases hz3
    · cases hz3
theorem so_bast  (X : mCx p s m args c D cl dA pre base tyL Ts G cc own nL) (hd : decode cc pc = .ok (.bastore, 1)) (hnx : nx = pc + 1) (hTL : mTL tyL) (hx : x = 1) (hz : stepI G M pc (.bastore) nx x y ls st h = some (.inl z)) (kk : mGo p l e R s m args below meth c Q D cl dA pre base nL z.1 z.2.1 z.2.2.1 z.2.2.2.1 (cells + z.2.2.2.2.1) (slots + z.2.2.2.2.2)) : mGo p l e R s m args below meth c Q D cl dA pre base nL pc ls st h cells slots := by
  obtain ⟨v, r1, rfl, hz1⟩ := s1i_ok hz
  obtain ⟨i, r2, rfl, hz2⟩ := s1i_ok hz1
  obtain ⟨a, r, rfl, hz3⟩ := s1r_ok hz2
  clear hz hz1 hz2
  subst hx
  cases hg : mget h a with
  | none => rw [hg] at hz3; cases hz3
  | some w =>
    rw [hg] at hz3
    rcases w with ⟨ti, n, f | f⟩ | w
    · obtain ⟨hv, hz4⟩ := if_ok hz3
      simp only [Bool.and_eq_true, decide_eq_true_eq] at hv
      obtain ⟨h0, hv⟩ := hv
      subst h0
      rw [if_pos rfl] at hz4
      cases okk_ok hz4
      subst hnx
      intro lsA H locs hL hR hS hZ
      have hSH := mS_rf hS
      exact va_bast X.1 X.2.1 X.2.2.2.2.2.1 hR.2.1 (mws_D h) hSH (a - 64) 1 (mws_get hR.1 hg) (mty_at hTL.2.1) (vin_ok hv) hd (fun H1 locs1 g1 g2 g3 => mSz hZ g3.1 fun z => kk lsA H1 locs1 hL (mR_put hR hg (by exact g1) z) (mS_tr hS g3) (by rw [z]; exact hZ))
    · cases hz3
    · cases hz3
theorem so_zast  (X : mCx p s m args c D cl dA pre base tyL Ts G cc own nL) (hd : decode cc pc = .ok (.bastore, 1)) (hnx : nx = pc + 1) (hTL : mTL tyL) (hx : x = 2) (hz : stepI G M pc (.bastore) nx x y ls st h = some (.inl z)) (kk : mGo p l e R s m args below meth c Q D cl dA pre base nL z.1 z.2.1 z.2.2.1 z.2.2.2.1 (cells + z.2.2.2.2.1) (slots + z.2.2.2.2.2)) : mGo p l e R s m args below meth c Q D cl dA pre base nL pc ls st h cells slots := by
  obtain ⟨v, r1, rfl, hz1⟩ := s1i_ok hz
  obtain ⟨i, r2, rfl, hz2⟩ := s1i_ok hz1
  obtain ⟨a, r, rfl, hz3⟩ := s1r_ok hz2
  clear hz hz1 hz2
  subst hx
  cases hg : mget h a with
  | none => rw [hg] at hz3; cases hz3
  | some w =>
    rw [hg] at hz3
    rcases w with ⟨ti, n, f | f⟩ | w
    · obtain ⟨hv, hz4⟩ := if_ok hz3
      simp only [Bool.and_eq_true, decide_eq_true_eq] at hv
      obtain ⟨h0, hv⟩ := hv
      subst h0
      rw [if_neg (by decide), if_pos rfl] at hz4
      cases okk_ok hz4
      subst hnx
      intro lsA H locs hL hR hS hZ
      have hSH := mS_rf hS
      exact va_zast X.1 X.2.1 X.2.2.2.2.2.1 hR.2.1 (mws_D h) hSH (a - 64) 2 (mws_get hR.1 hg) (mty_at hTL.2.2.1) (vin_ok hv) hd (fun H1 locs1 g1 g2 g3 => mSz hZ g3.1 fun z => kk lsA H1 locs1 hL (mR_put hR hg (by exact g1) z) (mS_tr hS g3) (by rw [z]; exact hZ))
    · cases hz3
    · cases hz3
theorem so_aastore {N : Nat} {C : String} {T : u_T} (X : mCx p s m args c D cl dA pre base tyL Ts G cc own nL) (hd : decode cc pc = .ok (.aastore, 1)) (hnx : nx = pc + 1) (hC : tyL[x]? = some (.object C)) (hcl : cl[y]? = some (C, T, N)) (hz : stepI G M pc (.aastore) nx x y ls st h = some (.inl z)) (kk : mGo p l e R s m args below meth c Q D cl dA pre base nL z.1 z.2.1 z.2.2.1 z.2.2.2.1 (cells + z.2.2.2.2.1) (slots + z.2.2.2.2.2)) : mGo p l e R s m args below meth c Q D cl dA pre base nL pc ls st h cells slots := by
  obtain ⟨v, r1, rfl, hz1⟩ := s1_ok hz
  obtain ⟨i, r2, rfl, hz2⟩ := s1i_ok hz1
  obtain ⟨a, r, rfl, hz3⟩ := s1r_ok hz2
  clear hz hz1 hz2
  cases hg : mget h a with
  | none => rw [hg] at hz3; cases hz3
  | some w =>
    rw [hg] at hz3
    rcases w with ⟨ti, n, f | f⟩ | w
    · cases hz3
    · obtain ⟨hv, hz4⟩ := if_ok hz3
      simp only [Bool.and_eq_true, decide_eq_true_eq] at hv
      obtain ⟨hv, h0⟩ := hv
      subst h0
      have hup : ∀ q : Option Nat, va_up (fun j => (f j).map (mad pre base)) i.toNatClampNeg (q.map (mad pre base)) = fun j => (va_up f i.toNatClampNeg q j).map (mad pre base) := fun q => by
        funext j
        unfold va_up
        by_cases hj : j = i.toNatClampNeg
        · rw [if_pos hj, if_pos hj]
        · rw [if_neg hj, if_neg hj]
      cases v with
      | null =>
        cases okk_ok hz4
        subst hnx
        intro lsA H locs hL hR hS hZ
        have hSH := mS_rf hS
        refine va_astqN X.1 X.2.1 X.2.2.2.2.2.1 hR.2.1 (mws_D h) hSH (a - 64) ti (mws_get hR.1 hg) (mty_at hC) (vin_ok hv) hd (fun H1 locs1 g1 g2 g3 => mSz hZ g3.1 fun z => kk lsA H1 locs1 hL (mR_put hR hg ?_ z) (mS_tr hS g3) (by rw [z]; exact hZ))
        have g4 := hup none
        simp only [Option.map_none] at g4
        rw [g4] at g1
        exact g1
      | ref b =>
        simp only at hz4
        cases hgb : mget h b with
        | none => rw [hgb] at hz4; cases hz4
        | some wb =>
          rw [hgb] at hz4
          rcases wb with wb | ⟨ci, fs⟩
          · cases hz4
          · obtain ⟨hci, hz5⟩ := if_ok hz4
            subst hci
            cases okk_ok hz5
            subst hnx
            intro lsA H locs hL hR hS hZ
            have hSH := mS_rf hS
            refine va_astq X.1 X.2.1 X.2.2.2.2.2.1 hR.2.1 (mws_D h) hSH (a - 64) ti (b - 64) ci (r := (C, T, N)) (mws_get hR.1 hg) (mty_at hC) (mws_get hR.1 hgb) hcl (vin_ok hv) hd (fun H1 locs1 g1 g2 g3 => mSz hZ g3.1 fun z => kk lsA H1 locs1 hL (mR_put hR hg ?_ z) (mS_tr hS g3) (by rw [z]; exact hZ))
            have g4 := hup (some b)
            simp only [Option.map_some] at g4
            rw [g4] at g1
            exact g1
      | _ => cases hz4
    · cases hz3
end SO
end
section
/-! New cells, constants, a static, two calls of the library: a step of the small machine is a step of the machine. -/
section SO
variable {p : Program} {l : Launch} {e : Env} {R : Room} {s : State} {m : MethodId} {args : Array Value} {below : List Frame} {meth : Method} {c : Code} {Q : State → Prop}
variable {D : va_G} {cl : List vw_C} {dA : Nat → ClassId} {pre : Nat → Nat} {base : Nat} {tyL : List FieldType} {Ts : List Cond} {G : GI} {cc : ByteArray} {own : String} {nL : Nat}
variable {M pc nx x y : Nat} {ls : ML} {st : List Value} {h : MH} {cells slots : Nat} {z : Nat × ML × List Value × MH × Nat × Nat}
theorem mSz1 {H H1 : Heap} {locs : List Loc} {g : JFrame} {n : Nat} (hZ : s.heap.size + cells = H.size) (k : H1.size ≤ H.size + 1 → W p l e R s m args below meth c H1 locs (cells + 1) n Q g) : W p l e R s m args below meth c H1 locs (cells + 1) n Q g := by
  intro T hT X
  have h1 := X.heapSize
  rw [hT] at h1
  exact k (by omega) T hT X
/-- where a new cell lies: behind all -/
theorem mNew {H H1 : Heap} {q : Nat} {w : va_E} {ex : ME} (hR : mR D cl dA pre base h H) (hP : va_P D cl (mws dA pre base h ++ [(q, w)]) H1) (hD : va_D (fun q => base ≤ q) (mws dA pre base h ++ [(q, w)])) (hle : H1.size ≤ H.size + 1) (hw : w = emE dA pre base ex) :
    q = mad pre base h.1 ∧ H1.size = H.size + 1 ∧ mR D cl dA pre base (mpush h ex) H1 := by
  have hlen : List.length (mws dA pre base h) = h.2.length := by simp [mws]
  have hl : (mws dA pre base h ++ [(q, w)])[h.2.length]? = some (q, w) := by
    rw [List.getElem?_append_right (by omega), hlen, Nat.sub_self]
    rfl
  have h1 : q < H1.size := (hP _ _ hl).lt
  have h2 : base ≤ q := hD.2 _ _ hl
  have h3 : ¬ q < base + h.2.length := fun hlt => by
    have h4 : (mws dA pre base h ++ [(q, w)])[q - base]? = some (base + (q - base), ((mws dA pre base h)[q - base]'(by omega)).2) := by
      rw [List.getElem?_append_left (by omega), List.getElem?_eq_getElem (by omega)]
      have h5 := mws_at (dA := dA) (pre := pre) (base := base) h (q - base)
      rw [List.getElem?_eq_getElem (show q - base < List.length (mws dA pre base h) by omega)] at h5
      obtain ⟨e1, -, h6⟩ := Option.map_eq_some_iff.mp h5.symm
      rw [← h6]
    have h7 := hD.1 _ _ _ _ h4 hl (by simp only; omega)
    omega
  have hs := hR.2.2
  have hq : q = base + h.2.length := by omega
  refine ⟨?_, by omega, ?_⟩
  · unfold mad
    rw [hR.1, if_neg (by omega)]
    omega
  · refine ⟨by have := hR.1; simp only [mpush, List.length_cons]; omega, ?_, by simp only [mpush, List.length_cons]; omega⟩
    rw [mws_push, ← hq, ← hw]
    exact hP
theorem so_newI  (X : mCx p s m args c D cl dA pre base tyL Ts G cc own nL) (hd : decode cc pc = .ok (.newarray .int, 2)) (hnx : nx = pc + 2) (harr : Cond.arrayClass .int ∈ Ts) (hty : tyL[x]? = some .int) (hc : cells + z.2.2.2.2.1 ≤ R.cells) (hn : slots + z.2.2.2.2.2 ≤ R.slots) (hz : stepI G M pc (.newarray .int) nx x y ls st h = some (.inl z)) (kk : mGo p l e R s m args below meth c Q D cl dA pre base nL z.1 z.2.1 z.2.2.1 z.2.2.2.1 (cells + z.2.2.2.2.1) (slots + z.2.2.2.2.2)) : mGo p l e R s m args below meth c Q D cl dA pre base nL pc ls st h cells slots := by
  obtain ⟨k, r, rfl, hz1⟩ := s1i_ok hz
  clear hz
  obtain ⟨hv, hz2⟩ := if_ok hz1
  simp only [Bool.and_eq_true, decide_eq_true_eq] at hv
  cases hz2
  subst hnx
  intro lsA H locs hL hR hS hZ
  refine va_newa (atype := .int) (ty := .int) (a0 := (k.toNatClampNeg, .inl (fun _ => 0))) X.1 X.2.1 (X.2.2.2.2.1 _ harr) rfl X.2.2.2.2.2.1 hR.2.1 (mws_D h) (mS_rf hS) (fun q hq => by have := hR.2.2; show base ≤ q; omega) (fun cA => rfl) (Int32.not_lt.mpr hv.1) rfl (by simp only [componentBytes]; omega) hc hn hd (fun q cA H1 gK g1 g2 g3 => ?_)
  refine mSz1 hZ fun hle => ?_
  have hcA : cA = dA x := by
    have q1 := (gK.2 (mty dA tyL).length (cA, .int) (by simp)).2
    have q2 := (X.2.2.2.2.2.1.2 x (dA x, .int) (mty_at hty)).2
    simp only [va_RA] at q1 q2
    exact Option.some.inj (q1.symm.trans q2)
  subst hcA
  obtain ⟨f1, f2, f3⟩ := mNew (ex := .inl (x, k.toNatClampNeg, .inl (fun _ => 0))) hR g1 g2 hle rfl
  subst f1
  exact kk lsA H1 locs hL f3 (mS_tr hS g3) (by show s.heap.size + (cells + 1) = H1.size; omega)
theorem so_newB  (X : mCx p s m args c D cl dA pre base tyL Ts G cc own nL) (hd : decode cc pc = .ok (.newarray .byte, 2)) (hnx : nx = pc + 2) (harr : Cond.arrayClass .byte ∈ Ts) (hty : tyL[x]? = some .byte) (hc : cells + z.2.2.2.2.1 ≤ R.cells) (hn : slots + z.2.2.2.2.2 ≤ R.slots) (hz : stepI G M pc (.newarray .byte) nx x y ls st h = some (.inl z)) (kk : mGo p l e R s m args below meth c Q D cl dA pre base nL z.1 z.2.1 z.2.2.1 z.2.2.2.1 (cells + z.2.2.2.2.1) (slots + z.2.2.2.2.2)) : mGo p l e R s m args below meth c Q D cl dA pre base nL pc ls st h cells slots := by
  obtain ⟨k, r, rfl, hz1⟩ := s1i_ok hz
  clear hz
  obtain ⟨hv, hz2⟩ := if_ok hz1
  simp only [Bool.and_eq_true, decide_eq_true_eq] at hv
  cases hz2
  subst hnx
  intro lsA H locs hL hR hS hZ
  refine va_newa (atype := .byte) (ty := .byte) (a0 := (k.toNatClampNeg, .inl (fun _ => 0))) X.1 X.2.1 (X.2.2.2.2.1 _ harr) rfl X.2.2.2.2.2.1 hR.2.1 (mws_D h) (mS_rf hS) (fun q hq => by have := hR.2.2; show base ≤ q; omega) (fun cA => rfl) (Int32.not_lt.mpr hv.1) rfl (by simp only [componentBytes]; omega) hc hn hd (fun q cA H1 gK g1 g2 g3 => ?_)
  refine mSz1 hZ fun hle => ?_
  have hcA : cA = dA x := by
    have q1 := (gK.2 (mty dA tyL).length (cA, .byte) (by simp)).2
    have q2 := (X.2.2.2.2.2.1.2 x (dA x, .byte) (mty_at hty)).2
    simp only [va_RA] at q1 q2
    exact Option.some.inj (q1.symm.trans q2)
  subst hcA
  obtain ⟨f1, f2, f3⟩ := mNew (ex := .inl (x, k.toNatClampNeg, .inl (fun _ => 0))) hR g1 g2 hle rfl
  subst f1
  exact kk lsA H1 locs hL f3 (mS_tr hS g3) (by show s.heap.size + (cells + 1) = H1.size; omega)
theorem so_newZ  (X : mCx p s m args c D cl dA pre base tyL Ts G cc own nL) (hd : decode cc pc = .ok (.newarray .boolean, 2)) (hnx : nx = pc + 2) (harr : Cond.arrayClass .boolean ∈ Ts) (hty : tyL[x]? = some .boolean) (hc : cells + z.2.2.2.2.1 ≤ R.cells) (hn : slots + z.2.2.2.2.2 ≤ R.slots) (hz : stepI G M pc (.newarray .boolean) nx x y ls st h = some (.inl z)) (kk : mGo p l e R s m args below meth c Q D cl dA pre base nL z.1 z.2.1 z.2.2.1 z.2.2.2.1 (cells + z.2.2.2.2.1) (slots + z.2.2.2.2.2)) : mGo p l e R s m args below meth c Q D cl dA pre base nL pc ls st h cells slots := by
  obtain ⟨k, r, rfl, hz1⟩ := s1i_ok hz
  clear hz
  obtain ⟨hv, hz2⟩ := if_ok hz1
  simp only [Bool.and_eq_true, decide_eq_true_eq] at hv
  cases hz2
  subst hnx
  intro lsA H locs hL hR hS hZ
  refine va_newa (atype := .boolean) (ty := .boolean) (a0 := (k.toNatClampNeg, .inl (fun _ => 0))) X.1 X.2.1 (X.2.2.2.2.1 _ harr) rfl X.2.2.2.2.2.1 hR.2.1 (mws_D h) (mS_rf hS) (fun q hq => by have := hR.2.2; show base ≤ q; omega) (fun cA => rfl) (Int32.not_lt.mpr hv.1) rfl (by simp only [componentBytes]; omega) hc hn hd (fun q cA H1 gK g1 g2 g3 => ?_)
  refine mSz1 hZ fun hle => ?_
  have hcA : cA = dA x := by
    have q1 := (gK.2 (mty dA tyL).length (cA, .boolean) (by simp)).2
    have q2 := (X.2.2.2.2.2.1.2 x (dA x, .boolean) (mty_at hty)).2
    simp only [va_RA] at q1 q2
    exact Option.some.inj (q1.symm.trans q2)
  subst hcA
  obtain ⟨f1, f2, f3⟩ := mNew (ex := .inl (x, k.toNatClampNeg, .inl (fun _ => 0))) hR g1 g2 hle rfl
  subst f1
  exact kk lsA H1 locs hL f3 (mS_tr hS g3) (by show s.heap.size + (cells + 1) = H1.size; omega)
theorem so_anewarray {idx : Nat} {C : String} (X : mCx p s m args c D cl dA pre base tyL Ts G cc own nL) (hd : decode cc pc = .ok (.anewarray idx, 3)) (hnx : nx = pc + 3) (hcl : Cond.classLink own idx C ∈ Ts) (hover : va_AO C s) (hty : tyL[x]? = some (.object C)) (hc : cells + z.2.2.2.2.1 ≤ R.cells) (hn : slots + z.2.2.2.2.2 ≤ R.slots) (hz : stepI G M pc (.anewarray idx) nx x y ls st h = some (.inl z)) (kk : mGo p l e R s m args below meth c Q D cl dA pre base nL z.1 z.2.1 z.2.2.1 z.2.2.2.1 (cells + z.2.2.2.2.1) (slots + z.2.2.2.2.2)) : mGo p l e R s m args below meth c Q D cl dA pre base nL pc ls st h cells slots := by
  obtain ⟨k, r, rfl, hz1⟩ := s1i_ok hz
  clear hz
  obtain ⟨hv, hz2⟩ := if_ok hz1
  simp only [Bool.and_eq_true, decide_eq_true_eq] at hv
  cases hz2
  subst hnx
  intro lsA H locs hL hR hS hZ
  refine va_newq (C := C) X.1 X.2.1 X.2.2.2.1 (X.2.2.2.2.1 _ hcl) hover X.2.2.2.2.2.1 hR.2.1 (mws_D h) (mS_rf hS) (fun q hq => by have := hR.2.2; show base ≤ q; omega) (Int32.not_lt.mpr hv.1) rfl (by omega) hc hn hd (fun q cA H1 gK g1 g2 g3 => ?_)
  refine mSz1 hZ fun hle => ?_
  have hcA : cA = dA x := by
    obtain ⟨_, _, -, -, -, q1⟩ := (gK.2 (mty dA tyL).length (cA, .object C) (by simp)).2
    obtain ⟨_, _, -, -, -, q2⟩ := (X.2.2.2.2.2.1.2 x (dA x, .object C) (mty_at hty)).2
    exact Option.some.inj (q1.symm.trans q2)
  subst hcA
  obtain ⟨f1, f2, f3⟩ := mNew (ex := .inl (x, k.toNatClampNeg, .inr (fun _ => none))) hR g1 g2 hle rfl
  subst f1
  exact kk lsA H1 locs hL f3 (mS_tr hS g3) (by show s.heap.size + (cells + 1) = H1.size; omega)
theorem so_new {idx N : Nat} {C : String} {T : u_T} (X : mCx p s m args c D cl dA pre base tyL Ts G cc own nL) (hd : decode cc pc = .ok (.new idx, 3)) (hnx : nx = pc + 3) (hk : mKl cl Ts G x C T N) (hcl : Cond.classLink own idx C ∈ Ts) (hc : cells + z.2.2.2.2.1 ≤ R.cells) (hn : slots + z.2.2.2.2.2 ≤ R.slots) (hz : stepI G M pc (.new idx) nx x y ls st h = some (.inl z)) (kk : mGo p l e R s m args below meth c Q D cl dA pre base nL z.1 z.2.1 z.2.2.1 z.2.2.2.1 (cells + z.2.2.2.2.1) (slots + z.2.2.2.2.2)) : mGo p l e R s m args below meth c Q D cl dA pre base nL pc ls st h cells slots := by
  cases hz
  subst hnx
  intro lsA H locs hL hR hS hZ
  have hmap : (G.2.2.2.1 x).map (emv pre base) = G.2.2.2.1 x := by
    have q : (G.2.2.2.1 x).map (emv pre base) = (G.2.2.2.1 x).map id := List.map_congr_left (fun v hv => emv_nr (hk.2.2.2.2.2.2.1 v hv))
    rw [q, List.map_id]
  refine va_new (C := C) (T := T) (N := N) (ci := x) (fs := G.2.2.2.1 x) X.1 X.2.1 X.2.2.2.2.1 hk.2.1 (G.2.2.2.2.1 x) (fun k q => (hk.2.2.1 k q).2) X.2.2.2.1 (X.2.2.2.2.1 _ hcl) (X.2.2.2.2.1 _ hk.2.2.2.2.2.2.2.1) (X.2.2.2.2.1 _ hk.2.2.2.2.2.2.2.2) X.2.2.2.2.2.1 hR.2.1 (mws_D h) (mS_rf hS) (fun q hq => by have := hR.2.2; show base ≤ q; omega) hk.1 hk.2.2.2.2.2.1 hc (by rw [← hk.2.2.2.2.1]; exact hn) hd (fun q H1 g1 g2 g3 => ?_)
  rw [← hk.2.2.2.2.1]
  refine mSz1 hZ fun hle => ?_
  obtain ⟨f1, f2, f3⟩ := mNew (ex := .inr (x, G.2.2.2.1 x)) hR g1 g2 hle (by simp only [emE, hmap])
  subst f1
  exact kk lsA H1 locs hL f3 (mS_tr hS g3) (by show s.heap.size + (cells + 1) = H1.size; omega)
theorem so_ldc {idx : Nat} (X : mCx p s m args c D cl dA pre base tyL Ts G cc own nL) (hd : decode cc pc = .ok (.ldc idx, 2)) (hnx : nx = pc + 2) (hy : y = 0) (hk : Cond.constant own idx (Int32.ofNat x) ∈ Ts) (hz : stepI G M pc (.ldc idx) nx x y ls st h = some (.inl z)) (kk : mGo p l e R s m args below meth c Q D cl dA pre base nL z.1 z.2.1 z.2.2.1 z.2.2.2.1 (cells + z.2.2.2.2.1) (slots + z.2.2.2.2.2)) : mGo p l e R s m args below meth c Q D cl dA pre base nL pc ls st h cells slots := by
  obtain ⟨-, hz1⟩ : y = 0 ∧ okk nx ls (.int (Int32.ofNat x) :: st) h = some (.inl z) := ⟨hy, by have q : stepI G M pc (.ldc idx) nx x y ls st h = (if y = 0 then okk nx ls (.int (Int32.ofNat x) :: st) h else okk nx ls (.ref x :: st) h) := rfl; rw [q, if_pos hy] at hz; exact hz⟩
  cases okk_ok hz1
  subst hnx
  intro lsA H locs hL hR hS hZ
  exact lv_ldc X.1 X.2.1 X.2.2.2.1 (X.2.2.2.2.1 _ hk) hd (kk lsA H locs hL hR hS hZ)
theorem so_ldc_w {idx : Nat} (X : mCx p s m args c D cl dA pre base tyL Ts G cc own nL) (hd : decode cc pc = .ok (.ldc_w idx, 3)) (hnx : nx = pc + 3) (hk : Cond.constant own idx (Int32.ofNat x) ∈ Ts) (hz : stepI G M pc (.ldc_w idx) nx x y ls st h = some (.inl z)) (kk : mGo p l e R s m args below meth c Q D cl dA pre base nL z.1 z.2.1 z.2.2.1 z.2.2.2.1 (cells + z.2.2.2.2.1) (slots + z.2.2.2.2.2)) : mGo p l e R s m args below meth c Q D cl dA pre base nL pc ls st h cells slots := by
  cases okk_ok hz
  subst hnx
  intro lsA H locs hL hR hS hZ
  exact lv_ldcw X.1 X.2.1 X.2.2.2.1 (X.2.2.2.2.1 _ hk) hd (kk lsA H locs hL hR hS hZ)
theorem so_ldc2_w {idx : Nat} (X : mCx p s m args c D cl dA pre base tyL Ts G cc own nL) (hd : decode cc pc = .ok (.ldc2_w idx, 3)) (hnx : nx = pc + 3) (hk : Cond.constantLong own idx (Int64.ofNat x) ∈ Ts) (hz : stepI G M pc (.ldc2_w idx) nx x y ls st h = some (.inl z)) (kk : mGo p l e R s m args below meth c Q D cl dA pre base nL z.1 z.2.1 z.2.2.1 z.2.2.2.1 (cells + z.2.2.2.2.1) (slots + z.2.2.2.2.2)) : mGo p l e R s m args below meth c Q D cl dA pre base nL pc ls st h cells slots := by
  cases okk_ok hz
  subst hnx
  intro lsA H locs hL hR hS hZ
  exact lv_ldc2 X.1 X.2.1 X.2.2.2.1 (X.2.2.2.2.1 _ hk) hd (kk lsA H locs hL hR hS hZ)
theorem so_gets {idx : Nat} {C n d host : String} (X : mCx p s m args c D cl dA pre base tyL Ts G cc own nL) (hd : decode cc pc = .ok (.getstatic idx, 3)) (hnx : nx = pc + 3) (hk : Cond.fieldLink own idx C n d ∈ Ts) (hx8 : x < 64) (hZs : va_Z C n d (.ref (pre x)) (fun q => base ≤ q) s s.heap) (hz : stepI G M pc (.getstatic idx) nx x y ls st h = some (.inl z)) (kk : mGo p l e R s m args below meth c Q D cl dA pre base nL z.1 z.2.1 z.2.2.1 z.2.2.2.1 (cells + z.2.2.2.2.1) (slots + z.2.2.2.2.2)) : mGo p l e R s m args below meth c Q D cl dA pre base nL pc ls st h cells slots := by
  cases okk_ok hz
  subst hnx
  intro lsA H locs hL hR hS hZ
  have hm : mad pre base x = pre x := by unfold mad; rw [if_pos hx8]
  have k2 := kk lsA H locs hL hR hS hZ
  rw [List.map_cons, show emv pre base (.ref x) = .ref (pre x) from congrArg Value.ref hm] at k2
  exact va_gets X.1 X.2.1 hZs hS X.2.2.2.1 (X.2.2.2.2.1 _ hk) (fun q hq => hq) hd k2
theorem so_getsN {idx : Nat} {C n d host : String} (X : mCx p s m args c D cl dA pre base tyL Ts G cc own nL) (hd : decode cc pc = .ok (.getstatic idx, 3)) (hnx : nx = pc + 3) (hk : va_Nw (Cond.fieldLinkNest own idx C n d host) s) (hx8 : x < 64) (hZs : va_Z C n d (.ref (pre x)) (fun q => base ≤ q) s s.heap) (hz : stepI G M pc (.getstatic idx) nx x y ls st h = some (.inl z)) (kk : mGo p l e R s m args below meth c Q D cl dA pre base nL z.1 z.2.1 z.2.2.1 z.2.2.2.1 (cells + z.2.2.2.2.1) (slots + z.2.2.2.2.2)) : mGo p l e R s m args below meth c Q D cl dA pre base nL pc ls st h cells slots := by
  cases okk_ok hz
  subst hnx
  intro lsA H locs hL hR hS hZ
  have hm : mad pre base x = pre x := by unfold mad; rw [if_pos hx8]
  have k2 := kk lsA H locs hL hR hS hZ
  rw [List.map_cons, show emv pre base (.ref x) = .ref (pre x) from congrArg Value.ref hm] at k2
  exact va_getsN X.1 X.2.1 hZs hS X.2.2.2.1 (hk.use rfl) (fun q hq => hq) hd k2
theorem mwid_map (pre : Nat → Nat) (base : Nat) (r : List Value) : ((r.map (emv pre base)).map fun v => v.category).sum = mwid r := by
  unfold mwid
  rw [List.map_map]
  congr 1
  apply List.map_congr_left
  intro v _
  exact emv_cat pre base v
theorem so_objInit {idx : Nat} (X : mCx p s m args c D cl dA pre base tyL Ts G cc own nL) (hd : decode cc pc = .ok (.invokespecial idx, 3)) (hnx : nx = pc + 3) (hx : x = 0) (h1 : Cond.methodLink own idx Lib.objectInit ∈ Ts) (h2 : Cond.instanceMethod Lib.objectInit ∈ Ts) (h3 : Cond.code Lib.objectInit ⟨#[0xb1]⟩ 1 none ∈ Ts) (hRf : 1 ≤ R.frames) (hRl : 20 ≤ R.locals) (hz : stepI G M pc (.invokespecial idx) nx x y ls st h = some (.inl z)) (kk : mGo p l e R s m args below meth c Q D cl dA pre base nL z.1 z.2.1 z.2.2.1 z.2.2.2.1 (cells + z.2.2.2.2.1) (slots + z.2.2.2.2.2)) : mGo p l e R s m args below meth c Q D cl dA pre base nL pc ls st h cells slots := by
  have q : stepI G M pc (.invokespecial idx) nx x y ls st h = (s1r st fun _ r => if mwid r ≤ 8 then okk nx ls r h else none) := by show (if x = 0 then _ else _) = _; rw [if_pos hx]
  rw [q] at hz
  clear q
  obtain ⟨a, r, rfl, hz1⟩ := s1r_ok hz
  clear hz
  obtain ⟨hw, hz2⟩ := if_ok hz1
  cases okk_ok hz2
  subst hnx
  intro lsA H locs hL hR hS hZ
  have hm := mwid_map pre base r
  exact W.objInit X.1 X.2.1 X.2.2.2.1 (X.2.2.2.2.1 _ h1) (X.2.2.2.2.1 _ h2) (X.2.2.2.2.1 _ h3) rfl (by rw [X.2.2.1]; exact hL.1) rfl hd hRf (by show 2 * 0 + _ + 12 ≤ _; omega) (kk lsA H locs hL hR hS hZ)
theorem so_mmin {idx : Nat} (X : mCx p s m args c D cl dA pre base tyL Ts G cc own nL) (hd : decode cc pc = .ok (.invokestatic idx, 3)) (hnx : nx = pc + 3) (hx : x = 9000) (h1 : Cond.methodLink own idx Lib.Math.min.name ∈ Ts) (h2 : Cond.static Lib.Math.min.name ∈ Ts) (h3 : Cond.initialized "java/lang/Math" ∈ Ts) (h4 : Cond.code Lib.Math.min.name Lib.Math.min.code 2 (some .int) ∈ Ts) (hRf : 1 ≤ R.frames) (hRl : 21 ≤ R.locals) (hc : cells + z.2.2.2.2.1 ≤ R.cells) (hn : slots + z.2.2.2.2.2 ≤ R.slots) (hz : stepI G M pc (.invokestatic idx) nx x y ls st h = some (.inl z)) (kk : mGo p l e R s m args below meth c Q D cl dA pre base nL z.1 z.2.1 z.2.2.1 z.2.2.2.1 (cells + z.2.2.2.2.1) (slots + z.2.2.2.2.2)) : mGo p l e R s m args below meth c Q D cl dA pre base nL pc ls st h cells slots := by
  have q : stepI G M pc (.invokestatic idx) nx x y ls st h = (s2i st fun a b r => if mwid r ≤ 8 then okk nx ls (.int (if b < a then b else a) :: r) h else none) := by show (if x = 9000 then _ else _) = _; rw [if_pos hx]
  rw [q] at hz
  clear q
  obtain ⟨a, b, r, rfl, hz1⟩ := s2i_ok hz
  clear hz
  obtain ⟨hw, hz2⟩ := if_ok hz1
  cases okk_ok hz2
  subst hnx
  intro lsA H locs hL hR hS hZ
  have hm := mwid_map pre base r
  exact va_mmin X.1 X.2.1 (by rw [X.2.2.1]; exact hL.1.symm) X.2.2.2.1 (X.2.2.2.2.1 _ h1) (X.2.2.2.2.1 _ h2) (X.2.2.2.2.1 _ h3) (X.2.2.2.2.1 _ h4) hRf (by omega) hc hn hd (kk lsA H locs hL hR hS hZ)
end SO
end
section
/-! Branches and answers: a step of the small machine is a step of the machine. -/
section SO
variable {p : Program} {l : Launch} {e : Env} {R : Room} {s : State} {m : MethodId} {args : Array Value} {below : List Frame} {meth : Method} {c : Code} {Q : State → Prop}
variable {D : va_G} {cl : List vw_C} {dA : Nat → ClassId} {pre : Nat → Nat} {base : Nat} {tyL : List FieldType} {Ts : List Cond} {G : GI} {cc : ByteArray} {own : String} {nL : Nat}
variable {M pc nx x y : Nat} {ls : ML} {st : List Value} {h : MH} {cells slots : Nat} {alts : List (Bool × Nat)} {ls' : ML} {st' : List Value} {pc' : Nat}
theorem brr_ok {b : Bool} {x nx : Nat} {ls ls' : ML} {st st' : List Value} {alts : List (Bool × Nat)} {pc' : Nat} (e : brr b x nx ls st = some (.inr (.inr (.inr (alts, ls', st'))))) (hq : (true, pc') ∈ alts) : ls' = ls ∧ st' = st ∧ ((b = true ∧ pc' = x) ∨ (b = false ∧ pc' = nx)) := by
  unfold brr at e
  cases e
  refine ⟨rfl, rfl, ?_⟩
  rcases List.mem_cons.mp hq with h1 | h1
  · cases h1
    exact Or.inl ⟨rfl, rfl⟩
  · rcases List.mem_cons.mp h1 with h2 | h2
    · obtain ⟨h3, h4⟩ := Prod.mk.inj h2
      exact Or.inr ⟨(by cases b with
        | false => rfl
        | true => cases h3), h4⟩
    · cases h2
theorem so_if_eq {off : Int} (X : mCx p s m args c D cl dA pre base tyL Ts G cc own nL) (hd : decode cc pc = .ok (.ifCond .eq off, 3)) (hnx : nx = pc + 3) (ht : (pc : Int) + off = (x : Int)) (hz : stepI G M pc (.ifCond .eq off) nx x y ls st h = some (.inr (.inr (.inr (alts, ls', st'))))) (hq : (true, pc') ∈ alts) (kk : mGo p l e R s m args below meth c Q D cl dA pre base nL pc' ls' st' h cells slots) : mGo p l e R s m args below meth c Q D cl dA pre base nL pc ls st h cells slots := by
  obtain ⟨a, r, rfl, hz1⟩ := s1i_ok hz
  obtain ⟨rfl, rfl, hb⟩ := brr_ok hz1 hq
  clear hz
  intro lsA H locs hL hR hS hZ
  rcases hb with ⟨h1, rfl⟩ | ⟨h1, rfl⟩
  · have h1 : a = 0 := of_decide_eq_true h1
    exact lv_if_eq X.1 X.2.1 hd ht (fun _ => (kk lsA H locs hL hR hS hZ)) (fun q => absurd h1 q)
  · have h1 : ¬ (a = 0) := of_decide_eq_false h1
    subst hnx
    exact lv_if_eq X.1 X.2.1 hd ht (fun q => absurd q h1) (fun _ => (kk lsA H locs hL hR hS hZ))
theorem so_icmp_eq {off : Int} (X : mCx p s m args c D cl dA pre base tyL Ts G cc own nL) (hd : decode cc pc = .ok (.if_icmp .eq off, 3)) (hnx : nx = pc + 3) (ht : (pc : Int) + off = (x : Int)) (hz : stepI G M pc (.if_icmp .eq off) nx x y ls st h = some (.inr (.inr (.inr (alts, ls', st'))))) (hq : (true, pc') ∈ alts) (kk : mGo p l e R s m args below meth c Q D cl dA pre base nL pc' ls' st' h cells slots) : mGo p l e R s m args below meth c Q D cl dA pre base nL pc ls st h cells slots := by
  obtain ⟨a, b, r, rfl, hz1⟩ := s2i_ok hz
  obtain ⟨rfl, rfl, hb⟩ := brr_ok hz1 hq
  clear hz
  intro lsA H locs hL hR hS hZ
  rcases hb with ⟨h1, rfl⟩ | ⟨h1, rfl⟩
  · have h1 : a = b := of_decide_eq_true h1
    exact lv_icmp_eq X.1 X.2.1 hd ht (fun _ => (kk lsA H locs hL hR hS hZ)) (fun q => absurd h1 q)
  · have h1 : ¬ (a = b) := of_decide_eq_false h1
    subst hnx
    exact lv_icmp_eq X.1 X.2.1 hd ht (fun q => absurd q h1) (fun _ => (kk lsA H locs hL hR hS hZ))
theorem so_if_ne {off : Int} (X : mCx p s m args c D cl dA pre base tyL Ts G cc own nL) (hd : decode cc pc = .ok (.ifCond .ne off, 3)) (hnx : nx = pc + 3) (ht : (pc : Int) + off = (x : Int)) (hz : stepI G M pc (.ifCond .ne off) nx x y ls st h = some (.inr (.inr (.inr (alts, ls', st'))))) (hq : (true, pc') ∈ alts) (kk : mGo p l e R s m args below meth c Q D cl dA pre base nL pc' ls' st' h cells slots) : mGo p l e R s m args below meth c Q D cl dA pre base nL pc ls st h cells slots := by
  obtain ⟨a, r, rfl, hz1⟩ := s1i_ok hz
  obtain ⟨rfl, rfl, hb⟩ := brr_ok hz1 hq
  clear hz
  intro lsA H locs hL hR hS hZ
  rcases hb with ⟨h1, rfl⟩ | ⟨h1, rfl⟩
  · have h1 : ¬ a = 0 := of_decide_eq_true h1
    exact lv_if_ne X.1 X.2.1 hd ht (fun _ => (kk lsA H locs hL hR hS hZ)) (fun q => absurd q h1)
  · have h1 : ¬ (¬ a = 0) := of_decide_eq_false h1
    subst hnx
    exact lv_if_ne X.1 X.2.1 hd ht (fun q => absurd (Decidable.not_not.mp h1) q) (fun _ => (kk lsA H locs hL hR hS hZ))
theorem so_icmp_ne {off : Int} (X : mCx p s m args c D cl dA pre base tyL Ts G cc own nL) (hd : decode cc pc = .ok (.if_icmp .ne off, 3)) (hnx : nx = pc + 3) (ht : (pc : Int) + off = (x : Int)) (hz : stepI G M pc (.if_icmp .ne off) nx x y ls st h = some (.inr (.inr (.inr (alts, ls', st'))))) (hq : (true, pc') ∈ alts) (kk : mGo p l e R s m args below meth c Q D cl dA pre base nL pc' ls' st' h cells slots) : mGo p l e R s m args below meth c Q D cl dA pre base nL pc ls st h cells slots := by
  obtain ⟨a, b, r, rfl, hz1⟩ := s2i_ok hz
  obtain ⟨rfl, rfl, hb⟩ := brr_ok hz1 hq
  clear hz
  intro lsA H locs hL hR hS hZ
  rcases hb with ⟨h1, rfl⟩ | ⟨h1, rfl⟩
  · have h1 : ¬ a = b := of_decide_eq_true h1
    exact lv_icmp_ne X.1 X.2.1 hd ht (fun _ => (kk lsA H locs hL hR hS hZ)) (fun q => absurd q h1)
  · have h1 : ¬ (¬ a = b) := of_decide_eq_false h1
    subst hnx
    exact lv_icmp_ne X.1 X.2.1 hd ht (fun q => absurd (Decidable.not_not.mp h1) q) (fun _ => (kk lsA H locs hL hR hS hZ))
theorem so_if_lt {off : Int} (X : mCx p s m args c D cl dA pre base tyL Ts G cc own nL) (hd : decode cc pc = .ok (.ifCond .lt off, 3)) (hnx : nx = pc + 3) (ht : (pc : Int) + off = (x : Int)) (hz : stepI G M pc (.ifCond .lt off) nx x y ls st h = some (.inr (.inr (.inr (alts, ls', st'))))) (hq : (true, pc') ∈ alts) (kk : mGo p l e R s m args below meth c Q D cl dA pre base nL pc' ls' st' h cells slots) : mGo p l e R s m args below meth c Q D cl dA pre base nL pc ls st h cells slots := by
  obtain ⟨a, r, rfl, hz1⟩ := s1i_ok hz
  obtain ⟨rfl, rfl, hb⟩ := brr_ok hz1 hq
  clear hz
  intro lsA H locs hL hR hS hZ
  rcases hb with ⟨h1, rfl⟩ | ⟨h1, rfl⟩
  · have h1 : a < 0 := of_decide_eq_true h1
    exact lv_if_lt X.1 X.2.1 hd ht (fun _ => (kk lsA H locs hL hR hS hZ)) (fun q => absurd h1 q)
  · have h1 : ¬ (a < 0) := of_decide_eq_false h1
    subst hnx
    exact lv_if_lt X.1 X.2.1 hd ht (fun q => absurd q h1) (fun _ => (kk lsA H locs hL hR hS hZ))
theorem so_icmp_lt {off : Int} (X : mCx p s m args c D cl dA pre base tyL Ts G cc own nL) (hd : decode cc pc = .ok (.if_icmp .lt off, 3)) (hnx : nx = pc + 3) (ht : (pc : Int) + off = (x : Int)) (hz : stepI G M pc (.if_icmp .lt off) nx x y ls st h = some (.inr (.inr (.inr (alts, ls', st'))))) (hq : (true, pc') ∈ alts) (kk : mGo p l e R s m args below meth c Q D cl dA pre base nL pc' ls' st' h cells slots) : mGo p l e R s m args below meth c Q D cl dA pre base nL pc ls st h cells slots := by
  obtain ⟨a, b, r, rfl, hz1⟩ := s2i_ok hz
  obtain ⟨rfl, rfl, hb⟩ := brr_ok hz1 hq
  clear hz
  intro lsA H locs hL hR hS hZ
  rcases hb with ⟨h1, rfl⟩ | ⟨h1, rfl⟩
  · have h1 : a < b := of_decide_eq_true h1
    exact lv_icmp_lt X.1 X.2.1 hd ht (fun _ => (kk lsA H locs hL hR hS hZ)) (fun q => absurd h1 q)
  · have h1 : ¬ (a < b) := of_decide_eq_false h1
    subst hnx
    exact lv_icmp_lt X.1 X.2.1 hd ht (fun q => absurd q h1) (fun _ => (kk lsA H locs hL hR hS hZ))
theorem so_if_ge {off : Int} (X : mCx p s m args c D cl dA pre base tyL Ts G cc own nL) (hd : decode cc pc = .ok (.ifCond .ge off, 3)) (hnx : nx = pc + 3) (ht : (pc : Int) + off = (x : Int)) (hz : stepI G M pc (.ifCond .ge off) nx x y ls st h = some (.inr (.inr (.inr (alts, ls', st'))))) (hq : (true, pc') ∈ alts) (kk : mGo p l e R s m args below meth c Q D cl dA pre base nL pc' ls' st' h cells slots) : mGo p l e R s m args below meth c Q D cl dA pre base nL pc ls st h cells slots := by
  obtain ⟨a, r, rfl, hz1⟩ := s1i_ok hz
  obtain ⟨rfl, rfl, hb⟩ := brr_ok hz1 hq
  clear hz
  intro lsA H locs hL hR hS hZ
  rcases hb with ⟨h1, rfl⟩ | ⟨h1, rfl⟩
  · have h1 : 0 ≤ a := of_decide_eq_true h1
    exact lv_if_ge X.1 X.2.1 hd ht (fun _ => (kk lsA H locs hL hR hS hZ)) (fun q => absurd h1 q)
  · have h1 : ¬ (0 ≤ a) := of_decide_eq_false h1
    subst hnx
    exact lv_if_ge X.1 X.2.1 hd ht (fun q => absurd q h1) (fun _ => (kk lsA H locs hL hR hS hZ))
theorem so_icmp_ge {off : Int} (X : mCx p s m args c D cl dA pre base tyL Ts G cc own nL) (hd : decode cc pc = .ok (.if_icmp .ge off, 3)) (hnx : nx = pc + 3) (ht : (pc : Int) + off = (x : Int)) (hz : stepI G M pc (.if_icmp .ge off) nx x y ls st h = some (.inr (.inr (.inr (alts, ls', st'))))) (hq : (true, pc') ∈ alts) (kk : mGo p l e R s m args below meth c Q D cl dA pre base nL pc' ls' st' h cells slots) : mGo p l e R s m args below meth c Q D cl dA pre base nL pc ls st h cells slots := by
  obtain ⟨a, b, r, rfl, hz1⟩ := s2i_ok hz
  obtain ⟨rfl, rfl, hb⟩ := brr_ok hz1 hq
  clear hz
  intro lsA H locs hL hR hS hZ
  rcases hb with ⟨h1, rfl⟩ | ⟨h1, rfl⟩
  · have h1 : b ≤ a := of_decide_eq_true h1
    exact lv_icmp_ge X.1 X.2.1 hd ht (fun _ => (kk lsA H locs hL hR hS hZ)) (fun q => absurd h1 q)
  · have h1 : ¬ (b ≤ a) := of_decide_eq_false h1
    subst hnx
    exact lv_icmp_ge X.1 X.2.1 hd ht (fun q => absurd q h1) (fun _ => (kk lsA H locs hL hR hS hZ))
theorem so_if_gt {off : Int} (X : mCx p s m args c D cl dA pre base tyL Ts G cc own nL) (hd : decode cc pc = .ok (.ifCond .gt off, 3)) (hnx : nx = pc + 3) (ht : (pc : Int) + off = (x : Int)) (hz : stepI G M pc (.ifCond .gt off) nx x y ls st h = some (.inr (.inr (.inr (alts, ls', st'))))) (hq : (true, pc') ∈ alts) (kk : mGo p l e R s m args below meth c Q D cl dA pre base nL pc' ls' st' h cells slots) : mGo p l e R s m args below meth c Q D cl dA pre base nL pc ls st h cells slots := by
  obtain ⟨a, r, rfl, hz1⟩ := s1i_ok hz
  obtain ⟨rfl, rfl, hb⟩ := brr_ok hz1 hq
  clear hz
  intro lsA H locs hL hR hS hZ
  rcases hb with ⟨h1, rfl⟩ | ⟨h1, rfl⟩
  · have h1 : 0 < a := of_decide_eq_true h1
    exact lv_if_gt X.1 X.2.1 hd ht (fun _ => (kk lsA H locs hL hR hS hZ)) (fun q => absurd h1 q)
  · have h1 : ¬ (0 < a) := of_decide_eq_false h1
    subst hnx
    exact lv_if_gt X.1 X.2.1 hd ht (fun q => absurd q h1) (fun _ => (kk lsA H locs hL hR hS hZ))
theorem so_icmp_gt {off : Int} (X : mCx p s m args c D cl dA pre base tyL Ts G cc own nL) (hd : decode cc pc = .ok (.if_icmp .gt off, 3)) (hnx : nx = pc + 3) (ht : (pc : Int) + off = (x : Int)) (hz : stepI G M pc (.if_icmp .gt off) nx x y ls st h = some (.inr (.inr (.inr (alts, ls', st'))))) (hq : (true, pc') ∈ alts) (kk : mGo p l e R s m args below meth c Q D cl dA pre base nL pc' ls' st' h cells slots) : mGo p l e R s m args below meth c Q D cl dA pre base nL pc ls st h cells slots := by
  obtain ⟨a, b, r, rfl, hz1⟩ := s2i_ok hz
  obtain ⟨rfl, rfl, hb⟩ := brr_ok hz1 hq
  clear hz
  intro lsA H locs hL hR hS hZ
  rcases hb with ⟨h1, rfl⟩ | ⟨h1, rfl⟩
  · have h1 : b < a := of_decide_eq_true h1
    exact lv_icmp_gt X.1 X.2.1 hd ht (fun _ => (kk lsA H locs hL hR hS hZ)) (fun q => absurd h1 q)
  · have h1 : ¬ (b < a) := of_decide_eq_false h1
    subst hnx
    exact lv_icmp_gt X.1 X.2.1 hd ht (fun q => absurd q h1) (fun _ => (kk lsA H locs hL hR hS hZ))
theorem so_if_le {off : Int} (X : mCx p s m args c D cl dA pre base tyL Ts G cc own nL) (hd : decode cc pc = .ok (.ifCond .le off, 3)) (hnx : nx = pc + 3) (ht : (pc : Int) + off = (x : Int)) (hz : stepI G M pc (.ifCond .le off) nx x y ls st h = some (.inr (.inr (.inr (alts, ls', st'))))) (hq : (true, pc') ∈ alts) (kk : mGo p l e R s m args below meth c Q D cl dA pre base nL pc' ls' st' h cells slots) : mGo p l e R s m args below meth c Q D cl dA pre base nL pc ls st h cells slots := by
  obtain ⟨a, r, rfl, hz1⟩ := s1i_ok hz
  obtain ⟨rfl, rfl, hb⟩ := brr_ok hz1 hq
  clear hz
  intro lsA H locs hL hR hS hZ
  rcases hb with ⟨h1, rfl⟩ | ⟨h1, rfl⟩
  · have h1 : a ≤ 0 := of_decide_eq_true h1
    exact lv_if_le X.1 X.2.1 hd ht (fun _ => (kk lsA H locs hL hR hS hZ)) (fun q => absurd h1 q)
  · have h1 : ¬ (a ≤ 0) := of_decide_eq_false h1
    subst hnx
    exact lv_if_le X.1 X.2.1 hd ht (fun q => absurd q h1) (fun _ => (kk lsA H locs hL hR hS hZ))
theorem so_icmp_le {off : Int} (X : mCx p s m args c D cl dA pre base tyL Ts G cc own nL) (hd : decode cc pc = .ok (.if_icmp .le off, 3)) (hnx : nx = pc + 3) (ht : (pc : Int) + off = (x : Int)) (hz : stepI G M pc (.if_icmp .le off) nx x y ls st h = some (.inr (.inr (.inr (alts, ls', st'))))) (hq : (true, pc') ∈ alts) (kk : mGo p l e R s m args below meth c Q D cl dA pre base nL pc' ls' st' h cells slots) : mGo p l e R s m args below meth c Q D cl dA pre base nL pc ls st h cells slots := by
  obtain ⟨a, b, r, rfl, hz1⟩ := s2i_ok hz
  obtain ⟨rfl, rfl, hb⟩ := brr_ok hz1 hq
  clear hz
  intro lsA H locs hL hR hS hZ
  rcases hb with ⟨h1, rfl⟩ | ⟨h1, rfl⟩
  · have h1 : a ≤ b := of_decide_eq_true h1
    exact lv_icmp_le X.1 X.2.1 hd ht (fun _ => (kk lsA H locs hL hR hS hZ)) (fun q => absurd h1 q)
  · have h1 : ¬ (a ≤ b) := of_decide_eq_false h1
    subst hnx
    exact lv_icmp_le X.1 X.2.1 hd ht (fun q => absurd q h1) (fun _ => (kk lsA H locs hL hR hS hZ))
theorem swAlts_ok {v : Int} {pc' : Nat} : ∀ {offs : List Nat} {lo : Int}, (true, pc') ∈ swAlts v lo offs → ∃ k : Nat, v = lo + k ∧ offs[k]? = some pc' := by
  intro offs
  induction offs with
  | nil => intro lo h; cases h
  | cons o r ih =>
    intro lo h
    rcases List.mem_cons.mp h with h1 | h1
    · obtain ⟨h2, h3⟩ := Prod.mk.inj h1
      exact ⟨0, by have := of_decide_eq_true h2.symm; omega, by rw [h3]; rfl⟩
    · obtain ⟨k, h2, h3⟩ := ih h1
      exact ⟨k + 1, by omega, h3⟩
theorem so_tsw {d lo hi : Int} {offs : Array Int} {len : Nat} (X : mCx p s m args c D cl dA pre base tyL Ts G cc own nL) (hd : decode cc pc = .ok (.tableswitch d lo hi offs, len)) (htd : 0 ≤ (pc : Int) + d) (hto : ∀ o ∈ offs.toList, 0 ≤ (pc : Int) + o) (hsz : lo + offs.toList.length ≤ hi + 1) (hz : stepI G M pc (.tableswitch d lo hi offs) nx x y ls st h = some (.inr (.inr (.inr (alts, ls', st'))))) (hq : (true, pc') ∈ alts) (kk : mGo p l e R s m args below meth c Q D cl dA pre base nL pc' ls' st' h cells slots) : mGo p l e R s m args below meth c Q D cl dA pre base nL pc ls st h cells slots := by
  obtain ⟨a, r, rfl, hz1⟩ := s1i_ok hz
  clear hz
  cases hz1
  intro lsA H locs hL hR hS hZ
  rcases List.mem_cons.mp hq with h1 | h1
  · obtain ⟨h2, rfl⟩ := Prod.mk.inj h1
    exact lv_tableOut X.1 X.2.1 hd (of_decide_eq_true h2.symm) (by unfold natI; omega) (kk lsA H locs hL hR hS hZ)
  · obtain ⟨k, h2, h3⟩ := swAlts_ok h1
    rw [List.getElem?_map] at h3
    obtain ⟨o, h4, rfl⟩ := Option.map_eq_some_iff.mp h3
    have h5 := hto o (List.mem_of_getElem? h4)
    have h6 := (List.getElem?_eq_some_iff.mp h4).1
    refine lv_tableIn X.1 X.2.1 hd (by omega) (by omega) (off := o) ?_ (by unfold natI; omega) (kk lsA H locs hL hR hS hZ)
    rw [h2, show (lo + (k : Int) - lo).toNat = k by omega, ← Array.getElem?_toList]
    exact h4
/-- what an answer has to say: the answer, the cells behind it -/
def mQc (D : va_G) (cl : List vw_C) (dA : Nat → ClassId) (pre : Nat → Nat) (base : Nat) (v : Option Value) (h : MH) (k : Nat) : Array Value → State → Outcome → State → Prop := fun _ U o t =>
  o = .returned (v.map (emv pre base)) ∧ mR D cl dA pre base h t.heap ∧ t.heap.size = U.heap.size + k ∧ (∀ q : Nat, q < U.heap.size → ¬ base ≤ q → t.heap[q]? = U.heap[q]?)
theorem mQc_of {D : va_G} {cl : List vw_C} {dA : Nat → ClassId} {pre : Nat → Nat} {base : Nat} {v : Option Value} {h : MH} {k : Nat} {a : Array Value} {U t : State} {o : Outcome} {H : Heap} {locs : List Loc} (hR : mR D cl dA pre base h H) (hS : va_S (fun q => base ≤ q) U.heap H locs) (hZ : U.heap.size + k = H.size) (ht : t.heap = H) (ho : o = .returned (v.map (emv pre base))) : mQc D cl dA pre base v h k a U o t :=
  ⟨ho, by rw [ht]; exact hR, by rw [ht]; exact hZ.symm, fun q h1 h2 => by rw [ht]; exact hS.2.1 q h1 h2⟩
theorem so_ireturn {v : Option Value} (X : mCx p s m args c D cl dA pre base tyL Ts G cc own nL) (hd : decode cc pc = .ok (.ireturn, 1)) (hlocks : meth.locks = false) (hret : meth.sig.returnType = G.2.2.2.2.2.1 M) (hz : stepI G M pc (.ireturn) nx x y ls st h = some (.inr (.inr (.inl v)))) : mGo p l e R s m args below meth c (MQ below (mQc D cl dA pre base v h cells) args s cells slots (fun q => base ≤ q)) D cl dA pre base nL pc ls st h cells slots := by
  have hz1 : (match st with | [w] => _ | _ => none) = _ := hz
  clear hz
  rcases st with _ | ⟨w, _ | ⟨w2, r⟩⟩
  · cases hz1
  · obtain ⟨h1, h2⟩ := if_ok hz1
    simp only [Bool.and_eq_true, decide_eq_true_eq] at h1
    cases h2
    intro lsA H locs hL hR hS hZ
    cases hty : G.2.2.2.2.2.1 M with
    | none => rw [hty] at h1; exact absurd h1.2 (by intro q; cases q)
    | some ty =>
      rw [hty] at h1 hret
      cases w with
      | int a => exact W.zret X.1 X.2.1 hret (fitB_ok (pre := pre) (base := base) h1.2).1 (fun t ht _ => mQc_of hR hS hZ ht rfl) hS.2.2 hd hlocks
      | _ => exact absurd h1.1 (by simp [isI])
  · cases hz1
theorem so_lreturn {v : Option Value} (X : mCx p s m args c D cl dA pre base tyL Ts G cc own nL) (hd : decode cc pc = .ok (.lreturn, 1)) (hlocks : meth.locks = false) (hret : meth.sig.returnType = G.2.2.2.2.2.1 M) (hz : stepI G M pc (.lreturn) nx x y ls st h = some (.inr (.inr (.inl v)))) : mGo p l e R s m args below meth c (MQ below (mQc D cl dA pre base v h cells) args s cells slots (fun q => base ≤ q)) D cl dA pre base nL pc ls st h cells slots := by
  have hz1 : (match st with | [w] => _ | _ => none) = _ := hz
  clear hz
  rcases st with _ | ⟨w, _ | ⟨w2, r⟩⟩
  · cases hz1
  · obtain ⟨h1, h2⟩ := if_ok hz1
    simp only [Bool.and_eq_true, decide_eq_true_eq] at h1
    cases h2
    intro lsA H locs hL hR hS hZ
    rw [h1.2] at hret
    cases w with
    | long a => exact W.lret X.1 X.2.1 hret (fun t ht _ => mQc_of hR hS hZ ht rfl) hS.2.2 hd hlocks
    | _ => exact absurd h1.1 (by simp [isL])
  · cases hz1
theorem so_areturn {v : Option Value} (X : mCx p s m args c D cl dA pre base tyL Ts G cc own nL) (hd : decode cc pc = .ok (.areturn, 1)) (hlocks : meth.locks = false) (hret : meth.sig.returnType = G.2.2.2.2.2.1 M) (hz : stepI G M pc (.areturn) nx x y ls st h = some (.inr (.inr (.inl v)))) : mGo p l e R s m args below meth c (MQ below (mQc D cl dA pre base v h cells) args s cells slots (fun q => base ≤ q)) D cl dA pre base nL pc ls st h cells slots := by
  have hz1 : (match st with | [w] => _ | _ => none) = _ := hz
  clear hz
  rcases st with _ | ⟨w, _ | ⟨w2, r⟩⟩
  · cases hz1
  · obtain ⟨h1, h2⟩ := if_ok hz1
    simp only [Bool.and_eq_true, decide_eq_true_eq] at h1
    cases h2
    intro lsA H locs hL hR hS hZ
    cases hty : G.2.2.2.2.2.1 M with
    | none => rw [hty] at h1; exact absurd h1.2 (by intro q; cases q)
    | some ty =>
      rw [hty] at h1 hret
      cases ty with
      | object C =>
        cases w with
        | ref a => exact W.aret X.1 X.2.1 hret (Or.inl ⟨C, rfl⟩) (Or.inr ⟨mad pre base a, rfl⟩) (fun t ht _ => mQc_of hR hS hZ ht rfl) hS.2.2 hd hlocks
        | null => exact W.aret X.1 X.2.1 hret (Or.inl ⟨C, rfl⟩) (Or.inl rfl) (fun t ht _ => mQc_of hR hS hZ ht rfl) hS.2.2 hd hlocks
        | _ => exact absurd h1.1 (by simp [isR])
      | _ => exact absurd h1.2 (by intro q; cases q)
  · cases hz1
theorem so_return {v : Option Value} (X : mCx p s m args c D cl dA pre base tyL Ts G cc own nL) (hd : decode cc pc = .ok (.return_, 1)) (hlocks : meth.locks = false) (hret : meth.sig.returnType = G.2.2.2.2.2.1 M) (hz : stepI G M pc (.return_) nx x y ls st h = some (.inr (.inr (.inl v)))) : mGo p l e R s m args below meth c (MQ below (mQc D cl dA pre base v h cells) args s cells slots (fun q => base ≤ q)) D cl dA pre base nL pc ls st h cells slots := by
  obtain ⟨h1, h2⟩ := if_ok (show (if (decide (G.2.2.2.2.2.1 M = none) && st.isEmpty) = true then _ else none) = _ from hz)
  simp only [Bool.and_eq_true, decide_eq_true_eq] at h1
  cases h2
  rw [h1.1] at hret
  have h3 : st = [] := by cases st with
    | nil => rfl
    | cons _ _ => exact absurd h1.2 (by simp)
  subst h3
  intro lsA H locs hL hR hS hZ
  exact W.vret X.1 X.2.1 hret (fun t ht _ => mQc_of hR hS hZ ht rfl) hS.2.2 hd hlocks
end SO
end
section
/-! Which kind of step an instruction makes. -/
theorem okk_only {nx : Nat} {ls : ML} {st : List Value} {h : MH} {z : ST} (e : okk nx ls st h = some z) : ∃ q, z = .inl q := by
  unfold okk at e
  cases e
  exact ⟨_, rfl⟩
section SO
variable {G : GI} {M pc nx x y : Nat} {i : Instr} {ls : ML} {st : List Value} {h : MH} {z : ST}
theorem on_only (hk : ikd i = 0) (hz : stepI G M pc i nx x y ls st h = some z) : ∃ q, z = .inl q := by
  cases i <;> first
    | (exact absurd (show (1 : Nat) = 0 from hk) (by decide)) | (exact absurd (show (2 : Nat) = 0 from hk) (by decide)) | (exact absurd (show (3 : Nat) = 0 from hk) (by decide)) | (exact absurd (show (4 : Nat) = 0 from hk) (by decide))
    | (exact okk_only hz)
    | (cases hz; exact ⟨_, rfl⟩)
    | (simp only [stepI, stload, ststore1, ststore2, s2i, s2l, s1i, s1l, s1r, s1] at hz
       repeat' split at hz
       all_goals first | (cases hz; done) | (exact okk_only hz) | (cases hz; exact ⟨_, rfl⟩))
theorem br_only (hk : ikd i = 1) (hz : stepI G M pc i nx x y ls st h = some z) : ∃ alts ls' st', z = .inr (.inr (.inr (alts, ls', st'))) := by
  cases i <;> first
    | (exact absurd (show (0 : Nat) = 1 from hk) (by decide)) | (exact absurd (show (2 : Nat) = 1 from hk) (by decide)) | (exact absurd (show (3 : Nat) = 1 from hk) (by decide)) | (exact absurd (show (4 : Nat) = 1 from hk) (by decide))
    | (simp only [stepI, brr, s2i, s1i, s1] at hz
       repeat' split at hz
       all_goals first | (cases hz; done) | (cases hz; exact ⟨_, _, _, rfl⟩))
theorem rt_only (hk : ikd i = 2) (hz : stepI G M pc i nx x y ls st h = some z) : ∃ v, z = .inr (.inr (.inl v)) := by
  cases i <;> first
    | (exact absurd (show (0 : Nat) = 2 from hk) (by decide)) | (exact absurd (show (1 : Nat) = 2 from hk) (by decide)) | (exact absurd (show (3 : Nat) = 2 from hk) (by decide)) | (exact absurd (show (4 : Nat) = 2 from hk) (by decide))
    | (simp only [stepI] at hz
       repeat' split at hz
       all_goals first | (cases hz; done) | (cases hz; exact ⟨_, rfl⟩))
theorem no_only (hk : ikd i = 4) (hz : stepI G M pc i nx x y ls st h = some z) : False := by
  cases i <;> first
    | (exact absurd (show (0 : Nat) = 4 from hk) (by decide)) | (exact absurd (show (1 : Nat) = 4 from hk) (by decide)) | (exact absurd (show (2 : Nat) = 4 from hk) (by decide)) | (exact absurd (show (3 : Nat) = 4 from hk) (by decide))
    | (cases hz; done)
end SO
end
section
/-! What an entry of the tables has to be; a step of each kind. -/
abbrev YT : Type := Nat → MethodName × ByteArray
def ilen (i : Instr) : Nat := match i with
  | .bipush _ | .ldc _ | .iload _ | .lload _ | .aload _ | .istore _ | .lstore _ | .astore _ | .newarray _ => 2
  | .sipush _ | .ldc_w _ | .ldc2_w _ | .iinc _ _ | .goto _ | .ifCond _ _ | .if_icmp _ _ | .if_acmp _ _ | .ifnull _ | .ifnonnull _ | .getfield _ | .putfield _ | .getstatic _ | .anewarray _ | .new _ | .invokespecial _ | .invokevirtual _ | .invokestatic _ => 3
  | _ => 1
/-- a callee: its code, its class, how many arguments -/
def CFok (Ts : List Cond) (G : GI) (YB : YT) (x y : Nat) : Prop := Cond.code (YB x).1 (YB x).2 (G.2.1 x) (G.2.2.2.2.2.1 x) ∈ Ts ∧ Cond.initialized (YB x).1.cls ∈ Ts ∧ plainName (YB x).1.cls = true ∧ ((YB x).1.cls ≠ "java/lang/invoke/MethodHandle" ∧ (YB x).1.cls ≠ "java/lang/invoke/VarHandle") ∧ (parseMethodDescriptor (YB x).1.desc).map (fun d => d.parameters.length) = some y
def EXok (Ts NW : List Cond) (cl : List vw_C) (tyL : List FieldType) (G : GI) (YB : YT) (M pc : Nat) (i : Instr) (x y : Nat) : Prop := match i with
  | .goto off | .ifnull off | .ifnonnull off | .ifCond _ off | .if_icmp _ off | .if_acmp _ off => (pc : Int) + off = (x : Int)
  | .tableswitch d lo hi offs => 0 ≤ (pc : Int) + d ∧ (∀ o ∈ offs.toList, 0 ≤ (pc : Int) + o) ∧ lo + offs.toList.length ≤ hi + 1
  | .ldc idx => y = 0 ∧ Cond.constant (YB M).1.cls idx (Int32.ofNat x) ∈ Ts
  | .ldc_w idx => Cond.constant (YB M).1.cls idx (Int32.ofNat x) ∈ Ts
  | .ldc2_w idx => Cond.constantLong (YB M).1.cls idx (Int64.ofNat x) ∈ Ts
  | .getfield idx => ∃ (C : String) (T : u_T) (N : Nat), mKl cl Ts G x C T N ∧ y < N ∧ Cond.fieldLink (YB M).1.cls idx C (T y).2.1 (T y).2.2.1 ∈ Ts
  | .putfield idx => ∃ (C : String) (T : u_T) (N : Nat), mKl cl Ts G x C T N ∧ y < N ∧ Cond.fieldLink (YB M).1.cls idx C (T y).2.1 (T y).2.2.1 ∈ Ts ∧ ((T y).2.2.2 = false ∨ ((T y).2.2.2 = true ∧ (YB M).1.name = "<init>" ∧ C = (YB M).1.cls))
  | .getstatic idx => x = 1 ∧ (Cond.fieldLink (YB M).1.cls idx "HoleDesk" "PARTS" "[I" ∈ Ts ∨ Cond.fieldLinkNest (YB M).1.cls idx "HoleDesk" "PARTS" "[I" "HoleDesk" ∈ NW)
  | .baload | .bastore => x = 1 ∨ x = 2
  | .aastore => ∃ (C : String) (T : u_T) (N : Nat), tyL[x]? = some (.object C) ∧ cl[y]? = some (C, T, N)
  | .newarray a => (a = .int ∧ x = 0 ∧ Cond.arrayClass .int ∈ Ts) ∨ (a = .byte ∧ x = 1 ∧ Cond.arrayClass .byte ∈ Ts) ∨ (a = .boolean ∧ x = 2 ∧ Cond.arrayClass .boolean ∈ Ts)
  | .anewarray idx => ∃ C : String, Cond.classLink (YB M).1.cls idx C ∈ Ts ∧ Cond.arrayOver (.object C) ∈ NW ∧ tyL[x]? = some (.object C)
  | .new idx => ∃ (C : String) (T : u_T) (N : Nat), mKl cl Ts G x C T N ∧ Cond.classLink (YB M).1.cls idx C ∈ Ts
  | .invokespecial idx => (x = 0 ∧ Cond.methodLink (YB M).1.cls idx Lib.objectInit ∈ Ts ∧ Cond.instanceMethod Lib.objectInit ∈ Ts ∧ Cond.code Lib.objectInit ⟨#[0xb1]⟩ 1 none ∈ Ts) ∨
      (¬ x = 0 ∧ CFok Ts G YB x y ∧ (Cond.methodLink (YB M).1.cls idx (YB x).1 ∈ Ts ∨ ∃ host : String, Cond.methodLinkNest (YB M).1.cls idx (YB x).1 host ∈ NW) ∧ Cond.instanceMethod (YB x).1 ∈ Ts ∧ (YB x).1.name = "<init>" ∧ G.2.2.2.2.2.1 x = none)
  | .invokestatic idx => (x = 9000 ∧ Cond.methodLink (YB M).1.cls idx Lib.Math.min.name ∈ Ts ∧ Cond.static Lib.Math.min.name ∈ Ts ∧ Cond.initialized "java/lang/Math" ∈ Ts ∧ Cond.code Lib.Math.min.name Lib.Math.min.code 2 (some .int) ∈ Ts) ∨
      (¬ x = 9000 ∧ CFok Ts G YB x y ∧ (Cond.methodLink (YB M).1.cls idx (YB x).1 ∈ Ts ∨ ∃ host : String, Cond.methodLinkNest (YB M).1.cls idx (YB x).1 host ∈ NW) ∧ Cond.static (YB x).1 ∈ Ts)
  | .invokevirtual idx => ¬ x = 9001 ∧ ¬ x = 9002 ∧ CFok Ts G YB x y ∧ Cond.methodLink (YB M).1.cls idx (YB x).1 ∈ Ts ∧ Cond.instanceMethod (YB x).1 ∈ Ts ∧ Cond.selects (YB x).1.cls (YB x).1 (YB x).1 ∈ Ts ∧ ∃ (T : u_T) (N : Nat), cl[G.2.2.2.2.2.2 x]? = some ((YB x).1.cls, T, N)
  | _ => True
def EOK (Ts NW : List Cond) (cl : List vw_C) (tyL : List FieldType) (G : GI) (YB : YT) (M pc : Nat) (i : Instr) (nx x y : Nat) : Prop := (match i with
  | .tableswitch _ _ _ _ => ∃ len, decode (YB M).2 pc = .ok (i, len)
  | _ => decode (YB M).2 pc = .ok (i, ilen i) ∧ nx = pc + ilen i) ∧ EXok Ts NW cl tyL G YB M pc i x y
/-- what holds of the machine at a method's start, and goes on holding -/
def mFx (D : va_G) (cl : List vw_C) (dA : Nat → ClassId) (pre : Nat → Nat) (base : Nat) (tyL : List FieldType) (NW : List Cond) (G : GI) (U : State) : Prop :=
  va_K D cl (mty dA tyL) U ∧ base ≤ U.heap.size ∧ (∀ (a n : Nat) (f : Nat → Int32), G.2.2.1 a = some (n, f) → a < 8 → va_X (pre a) n f U U.heap ∧ pre a < base) ∧ (∀ w ∈ NW, va_Nw w U) ∧ va_Z "HoleDesk" "PARTS" "[I" (.ref (pre 1)) (fun q => base ≤ q) U U.heap
section SO
variable {p : Program} {l : Launch} {e : Env} {R : Room} {s : State} {m : MethodId} {args : Array Value} {below : List Frame} {meth : Method} {c : Code} {Q : State → Prop}
variable {D : va_G} {cl : List vw_C} {dA : Nat → ClassId} {pre : Nat → Nat} {base : Nat} {tyL : List FieldType} {Ts NW : List Cond} {G : GI} {YB : YT}
variable {M pc nx x y : Nat} {i : Instr} {ls : ML} {st : List Value} {h : MH} {cells slots : Nat} {z : Nat × ML × List Value × MH × Nat × Nat} {alts : List (Bool × Nat)} {ls' : ML} {st' : List Value} {pc' : Nat}
theorem stp_on (X : mCx p s m args c D cl dA pre base tyL Ts G (YB M).2 (YB M).1.cls (G.2.1 M)) (hF : mFx D cl dA pre base tyL NW G s) (hTL : mTL tyL) (hname : meth.name = (YB M).1.name) (hE : EOK Ts NW cl tyL G YB M pc i nx x y) (hk : ikd i = 0) (hc : cells + z.2.2.2.2.1 ≤ R.cells) (hn : slots + z.2.2.2.2.2 ≤ R.slots) (hz : stepI G M pc i nx x y ls st h = some (.inl z)) (kk : mGo p l e R s m args below meth c Q D cl dA pre base (G.2.1 M) z.1 z.2.1 z.2.2.1 z.2.2.2.1 (cells + z.2.2.2.2.1) (slots + z.2.2.2.2.2)) : mGo p l e R s m args below meth c Q D cl dA pre base (G.2.1 M) pc ls st h cells slots := by
  cases i with
  | iconst a => exact so_iconst X hE.1.1 hE.1.2 hz kk
  | bipush a => exact so_bipush X hE.1.1 hE.1.2 hz kk
  | sipush a => exact so_sipush X hE.1.1 hE.1.2 hz kk
  | lconst a => exact so_lconst X hE.1.1 hE.1.2 hz kk
  | aconst_null => exact so_null X hE.1.1 hE.1.2 hz kk
  | iload_n a => exact so_iload_n X hE.1.1 hE.1.2 hz kk
  | iload a => exact so_iload X hE.1.1 hE.1.2 hz kk
  | lload_n a => exact so_lload_n X hE.1.1 hE.1.2 hz kk
  | lload a => exact so_lload X hE.1.1 hE.1.2 hz kk
  | aload_n a => exact so_aload_n X hE.1.1 hE.1.2 hz kk
  | aload a => exact so_aload X hE.1.1 hE.1.2 hz kk
  | iadd => exact so_iadd X hE.1.1 hE.1.2 hz kk
  | isub => exact so_isub X hE.1.1 hE.1.2 hz kk
  | imul => exact so_imul X hE.1.1 hE.1.2 hz kk
  | iand => exact so_iand X hE.1.1 hE.1.2 hz kk
  | idiv => exact so_idiv X hE.1.1 hE.1.2 hz kk
  | irem => exact so_irem X hE.1.1 hE.1.2 hz kk
  | ineg => exact so_ineg X hE.1.1 hE.1.2 hz kk
  | i2l => exact so_i2l X hE.1.1 hE.1.2 hz kk
  | i2b => exact so_i2b X hE.1.1 hE.1.2 hz kk
  | l2i => exact so_l2i X hE.1.1 hE.1.2 hz kk
  | ladd => exact so_ladd X hE.1.1 hE.1.2 hz kk
  | lmul => exact so_lmul X hE.1.1 hE.1.2 hz kk
  | ldiv => exact so_ldiv X hE.1.1 hE.1.2 hz kk
  | lrem => exact so_lrem X hE.1.1 hE.1.2 hz kk
  | lneg => exact so_lneg X hE.1.1 hE.1.2 hz kk
  | lcmp => exact so_lcmp X hE.1.1 hE.1.2 hz kk
  | dup => exact so_dup X hE.1.1 hE.1.2 hz kk
  | pop => exact so_pop X hE.1.1 hE.1.2 hz kk
  | dup_x1 => exact so_dup_x1 X hE.1.1 hE.1.2 hz kk
  | dup2 => exact so_dup2 X hE.1.1 hE.1.2 hz kk
  | istore_n a => exact so_istore_n X hE.1.1 hE.1.2 rfl hz kk
  | istore a => exact so_istore X hE.1.1 hE.1.2 rfl hz kk
  | astore_n a => exact so_astore_n X hE.1.1 hE.1.2 rfl hz kk
  | astore a => exact so_astore X hE.1.1 hE.1.2 rfl hz kk
  | lstore_n a => exact so_lstore_n X hE.1.1 hE.1.2 rfl hz kk
  | lstore a => exact so_lstore X hE.1.1 hE.1.2 rfl hz kk
  | iinc a b => exact so_iinc X hE.1.1 hE.1.2 rfl hz kk
  | goto a => exact so_goto X hE.1.1 hE.1.2 hE.2 hz kk
  | ifnull a => exact so_ifnull X hE.1.1 hE.1.2 hE.2 hz kk
  | ifnonnull a => exact so_ifnonnull X hE.1.1 hE.1.2 hE.2 hz kk
  | if_acmp cc b =>
    cases cc
    · exact so_acmp_eq X hE.1.1 hE.1.2 hE.2 hz kk
    · exact so_acmp_ne X hE.1.1 hE.1.2 hE.2 hz kk
  | ldc a => exact so_ldc X hE.1.1 hE.1.2 hE.2.1 hE.2.2 hz kk
  | ldc_w a => exact so_ldc_w X hE.1.1 hE.1.2 hE.2 hz kk
  | ldc2_w a => exact so_ldc2_w X hE.1.1 hE.1.2 hE.2 hz kk
  | getfield a =>
    obtain ⟨C, T, N, h1, h2, h3⟩ := hE.2
    exact so_getfield X hE.1.1 hE.1.2 h1 h2 h3 hz kk
  | putfield a =>
    obtain ⟨C, T, N, h1, h2, h3, h4⟩ := hE.2
    exact so_putfield X hE.1.1 hE.1.2 h1 h2 h3 (h4.imp id fun q => ⟨q.1, hname.trans q.2.1, q.2.2⟩) hz kk
  | getstatic a =>
    obtain ⟨h1, h2 | h2⟩ := hE.2
    · subst h1
      exact so_gets (host := "") X hE.1.1 hE.1.2 h2 (by decide) hF.2.2.2.2 hz kk
    · subst h1
      exact so_getsN X hE.1.1 hE.1.2 (hF.2.2.2.1 _ h2) (by decide) hF.2.2.2.2 hz kk
  | arraylength => exact so_arraylength X hE.1.1 hE.1.2 hTL hz kk
  | iaload => exact so_iaload X hE.1.1 hE.1.2 hTL.1 hz kk
  | baload =>
    rcases hE.2 with h1 | h1
    · subst h1
      exact so_bald X hE.1.1 hE.1.2 (by decide) hTL.2.1 hz kk
    · subst h1
      exact so_zald X hE.1.1 hE.1.2 (by decide) hTL.2.2.1 hz kk
  | aaload => exact so_aaload X hE.1.1 hE.1.2 hTL hz kk
  | iastore => exact so_iastore X hE.1.1 hE.1.2 hTL hz kk
  | bastore =>
    rcases hE.2 with h1 | h1
    · exact so_bast X hE.1.1 hE.1.2 hTL h1 hz kk
    · exact so_zast X hE.1.1 hE.1.2 hTL h1 hz kk
  | aastore =>
    obtain ⟨C, T, N, h1, h2⟩ := hE.2
    exact so_aastore X hE.1.1 hE.1.2 h1 h2 hz kk
  | newarray a =>
    rcases hE.2 with ⟨h1, h2, h3⟩ | ⟨h1, h2, h3⟩ | ⟨h1, h2, h3⟩
    · subst h1; subst h2
      exact so_newI X hE.1.1 hE.1.2 h3 hTL.1 hc hn hz kk
    · subst h1; subst h2
      exact so_newB X hE.1.1 hE.1.2 h3 hTL.2.1 hc hn hz kk
    · subst h1; subst h2
      exact so_newZ X hE.1.1 hE.1.2 h3 hTL.2.2.1 hc hn hz kk
  | anewarray a =>
    obtain ⟨C, h1, h2, h3⟩ := hE.2
    exact so_anewarray X hE.1.1 hE.1.2 h1 (hF.2.2.2.1 _ h2) h3 hc hn hz kk
  | new a =>
    obtain ⟨C, T, N, h1, h2⟩ := hE.2
    exact so_new X hE.1.1 hE.1.2 h1 h2 hc hn hz kk
  | _ => first | exact absurd (show (1 : Nat) = 0 from hk) (by decide) | exact absurd (show (2 : Nat) = 0 from hk) (by decide) | exact absurd (show (3 : Nat) = 0 from hk) (by decide) | exact absurd (show (4 : Nat) = 0 from hk) (by decide)
theorem stp_br (X : mCx p s m args c D cl dA pre base tyL Ts G (YB M).2 (YB M).1.cls (G.2.1 M)) (hE : EOK Ts NW cl tyL G YB M pc i nx x y) (hk : ikd i = 1) (hz : stepI G M pc i nx x y ls st h = some (.inr (.inr (.inr (alts, ls', st'))))) (hq : (true, pc') ∈ alts) (kk : mGo p l e R s m args below meth c Q D cl dA pre base (G.2.1 M) pc' ls' st' h cells slots) : mGo p l e R s m args below meth c Q D cl dA pre base (G.2.1 M) pc ls st h cells slots := by
  cases i with
  | ifCond k off =>
    cases k with
    | eq => exact so_if_eq X hE.1.1 hE.1.2 hE.2 hz hq kk
    | ne => exact so_if_ne X hE.1.1 hE.1.2 hE.2 hz hq kk
    | lt => exact so_if_lt X hE.1.1 hE.1.2 hE.2 hz hq kk
    | ge => exact so_if_ge X hE.1.1 hE.1.2 hE.2 hz hq kk
    | gt => exact so_if_gt X hE.1.1 hE.1.2 hE.2 hz hq kk
    | le => exact so_if_le X hE.1.1 hE.1.2 hE.2 hz hq kk
  | if_icmp k off =>
    cases k with
    | eq => exact so_icmp_eq X hE.1.1 hE.1.2 hE.2 hz hq kk
    | ne => exact so_icmp_ne X hE.1.1 hE.1.2 hE.2 hz hq kk
    | lt => exact so_icmp_lt X hE.1.1 hE.1.2 hE.2 hz hq kk
    | ge => exact so_icmp_ge X hE.1.1 hE.1.2 hE.2 hz hq kk
    | gt => exact so_icmp_gt X hE.1.1 hE.1.2 hE.2 hz hq kk
    | le => exact so_icmp_le X hE.1.1 hE.1.2 hE.2 hz hq kk
  | tableswitch d lo hi offs =>
    obtain ⟨len, hd⟩ := hE.1
    exact so_tsw X hd hE.2.1 hE.2.2.1 hE.2.2.2 hz hq kk
  | _ => first | exact absurd (show (0 : Nat) = 1 from hk) (by decide) | exact absurd (show (2 : Nat) = 1 from hk) (by decide) | exact absurd (show (3 : Nat) = 1 from hk) (by decide) | exact absurd (show (4 : Nat) = 1 from hk) (by decide)
theorem stp_rt {v : Option Value} (X : mCx p s m args c D cl dA pre base tyL Ts G (YB M).2 (YB M).1.cls (G.2.1 M)) (hlocks : meth.locks = false) (hret : meth.sig.returnType = G.2.2.2.2.2.1 M) (hE : EOK Ts NW cl tyL G YB M pc i nx x y) (hk : ikd i = 2) (hz : stepI G M pc i nx x y ls st h = some (.inr (.inr (.inl v)))) : mGo p l e R s m args below meth c (MQ below (mQc D cl dA pre base v h cells) args s cells slots (fun q => base ≤ q)) D cl dA pre base (G.2.1 M) pc ls st h cells slots := by
  cases i with
  | ireturn => exact so_ireturn X hE.1.1 hlocks hret hz
  | lreturn => exact so_lreturn X hE.1.1 hlocks hret hz
  | areturn => exact so_areturn X hE.1.1 hlocks hret hz
  | return_ => exact so_return X hE.1.1 hlocks hret hz
  | _ => first | exact absurd (show (0 : Nat) = 2 from hk) (by decide) | exact absurd (show (1 : Nat) = 2 from hk) (by decide) | exact absurd (show (3 : Nat) = 2 from hk) (by decide) | exact absurd (show (4 : Nat) = 2 from hk) (by decide)
end SO
end
section
/-! A run of the small machine is a run of the machine. -/
def nst (w : Cond) : Prop := (∃ (a : String) (i : Nat) (b n d hh : String), w = .fieldLinkNest a i b n d hh) ∨ (∃ (a : String) (i : Nat) (x : MethodName) (hh : String), w = .methodLinkNest a i x hh) ∨ ∃ C : String, w = .arrayOver (.object C)
theorem mFx_on {D : va_G} {cl : List vw_C} {dA : Nat → ClassId} {pre : Nat → Nat} {base : Nat} {tyL : List FieldType} {NW : List Cond} {G : GI} {s U : State} {H : Heap} {locs : List Loc} (hNW : ∀ w ∈ NW, nst w) (hF : mFx D cl dA pre base tyL NW G s) (hS : va_S (fun q => base ≤ q) s.heap H locs) (hH : U.heap = H) (hW : s.WarmedH U.vm) : mFx D cl dA pre base tyL NW G U := by
  subst hH
  obtain ⟨f1, f2, f3, f4, f5⟩ := hF
  refine ⟨f1.moved hW.alike, Nat.le_trans f2 hS.1, fun a n f hg h8 => ?_, fun w hw => ?_, ?_⟩
  · obtain ⟨g1, g2⟩ := f3 a n f hg h8
    exact ⟨(g1.kept (hS.2.1 _ (Nat.lt_of_lt_of_le g2 f2) (Nat.not_le.mpr g2))).moved hW.alike, g2⟩
  · rcases hNW w hw with ⟨a, i, b, n, d, hh, rfl⟩ | ⟨a, i, x, hh, rfl⟩ | ⟨C, rfl⟩
    · exact (f4 _ hw).warmF hW
    · exact (f4 _ hw).warmM hW
    · exact va_AO.moved hW.alike (f4 _ hw)
  · exact (f5.kept hS.2.1).moved hW.alike
def mPc (D : va_G) (cl : List vw_C) (dA : Nat → ClassId) (pre : Nat → Nat) (base : Nat) (tyL : List FieldType) (NW : List Cond) (G : GI) (as : List Value) (h : MH) : Array Value → State → Prop := fun a U =>
  a = (as.map (emv pre base)).toArray ∧ mR D cl dA pre base h U.heap ∧ mFx D cl dA pre base tyL NW G U
theorem mPc_blind {D : va_G} {cl : List vw_C} {dA : Nat → ClassId} {pre : Nat → Nat} {base : Nat} {tyL : List FieldType} {NW : List Cond} {G : GI} {as : List Value} {h : MH} (hNW : ∀ w ∈ NW, nst w) : FrameBlind (mPc D cl dA pre base tyL NW G as h) := by
  intro a U g mk hq
  obtain ⟨q1, q2, q3⟩ := hq
  exact ⟨q1, q2, mFx_on (U := U.calling g mk a) (locs := []) hNW q3 va_S.rf rfl (State.WarmedH.refl U)⟩
def rmOf (d k n : Nat) : Room := { frames := d + 1, cells := k, slots := n, locals := 21 + 40 * d }
theorem ment_em (pre : Nat → Nat) (base : Nat) : ∀ (vs : List Value) (i : Nat), lv_args i (vs.map (emv pre base)) = emL pre base (ment i vs) := by
  intro vs
  induction vs with
  | nil => intro i; rfl
  | cons v r ih =>
    intro i
    show (i, emv pre base v) :: lv_args (if (emv pre base v).category = 2 then i + 2 else i + 1) (r.map (emv pre base)) = (i, emv pre base v) :: emL pre base (ment (i + v.category) r)
    rw [emv_cat, ← ih]
    rcases lv_cat v with h | h
    · rw [h, if_neg (by decide)]
    · rw [h, if_pos rfl]
theorem sl_len (pre : Nat → Nat) (base : Nat) : ∀ vs : List Value, (lg_sl (vs.map (emv pre base))).length = mwid vs := by
  intro vs
  induction vs with
  | nil => rfl
  | cons v r ih =>
    unfold lg_sl at ih ⊢
    rw [List.map_cons, List.flatMap_cons, List.length_append, ih]
    unfold mwid
    rw [List.map_cons, List.sum_cons, emv_cat]
    rcases lv_cat v with h | h
    · rw [h, if_neg (by decide)]; rfl
    · rw [h, if_pos rfl]; rfl
section RUN
variable {l : Launch} {D : va_G} {cl : List vw_C} {dA : Nat → ClassId} {pre : Nat → Nat} {base : Nat} {tyL : List FieldType} {Ts NW : List Cond} {G : GI} {YB : YT}
/-- a method's contract, out of its body's walk in any machine -/
def mBody (l : Launch) (D : va_G) (cl : List vw_C) (dA : Nat → ClassId) (pre : Nat → Nat) (base : Nat) (tyL : List FieldType) (Ts NW : List Cond) (G : GI) (YB : YT) (d M pc : Nat) (ls : ML) (st : List Value) (h : MH) (k n : Nat) (v : Option Value) (h' : MH) (k' n' : Nat) : Prop :=
  ∀ (p : Program) (e : Env) (s : State) (m : MethodId) (args : Array Value) (below : List Frame) (meth : Method) (c : Code), mCx p s m args c D cl dA pre base tyL Ts G (YB M).2 (YB M).1.cls (G.2.1 M) → mFx D cl dA pre base tyL NW G s → meth.locks = false → meth.sig.returnType = G.2.2.2.2.2.1 M → meth.name = (YB M).1.name →
    mGo p l e (rmOf d k' n') s m args below meth c (MQ below (mQc D cl dA pre base v h' k') args s k' n' (fun q => base ≤ q)) D cl dA pre base (G.2.1 M) pc ls st h k n
theorem met_of {d y : Nat} {as : List Value} {h h' : MH} {v : Option Value} {k' n' n : Nat} (hC : CFok Ts G YB y n) (hw : mwid as ≤ G.2.1 y) (hB : mBody l D cl dA pre base tyL Ts NW G YB d y 0 (ment 0 as) [] h 0 0 v h' k' n') :
    Met l (YB y).1 (Cond.code (YB y).1 (YB y).2 (G.2.1 y) (G.2.2.2.2.2.1 y) :: Ts) (rmOf d k' n') (mPc D cl dA pre base tyL NW G as h) (mQc D cl dA pre base v h' k') k' n' (fun q => base ≤ q) := by
  refine Met.ofW (cc := (YB y).2) (maxL := G.2.1 y) (ret := G.2.2.2.2.2.1 y) hC.2.2.1 rfl ?_
  intro p e s m args below meth c s₁ B hml hv
  obtain ⟨rfl, hR, hF⟩ := hv
  have hts := atoms_spec (ws := Cond.code (YB y).1 (YB y).2 (G.2.1 y) (G.2.2.2.2.2.1 y) :: Ts) B.pre
  have X : mCx p s m (as.map (emv pre base)).toArray c D cl dA pre base tyL Ts G (YB y).2 (YB y).1.cls (G.2.1 y) := ⟨B.exec, B.bytes, hml, findClass_of_methodNamed B.named, fun w hw => hts w (List.mem_cons_of_mem _ hw), hF.1, hF.2.1, hF.2.2.1⟩
  have hl := lv_entry (as.map (emv pre base)) (n := G.2.1 y) (by rw [sl_len]; exact hw)
  rw [ment_em] at hl
  rw [lg_entry_eq]
  exact hB p e s m _ below meth c X hF B.notSynchronized B.returns (name_of_methodNamed B.named B.method).1 _ s.heap [] hl hR va_S.rf rfl
variable {p : Program} {e : Env} {R : Room} {s : State} {m : MethodId} {args : Array Value} {below : List Frame} {meth : Method} {c : Code} {Q : State → Prop}
theorem cl_go {nL pc cells slots k1 n1 : Nat} {ls : ML} {h1 : MH} {v1 : Option Value} {lsA : Array Slot} {H : Heap} {locs : List Loc} {stA r : List Value} {a : Array Value}
    (hr : va_Run p l e R s m args below meth c H locs cells slots k1 n1 (F0 m pc lsA stA) (r.map (emv pre base)) (mQc D cl dA pre base v1 h1 k1 a) (fun q => base ≤ q))
    (hL : lv_has lsA nL (emL pre base ls)) (hS : va_S (fun q => base ≤ q) s.heap H locs) (hZ : s.heap.size + cells = H.size)
    (kk : mGo p l e R s m args below meth c Q D cl dA pre base nL (pc + 3) ls (v1.toList ++ r) h1 (cells + k1) (slots + n1)) : W p l e R s m args below meth c H locs cells slots Q (F0 m pc lsA stA) := by
  intro T hT X
  obtain ⟨v, st₀, t, T', L, h0, X', hL', e1, e2, ⟨hv, hR1, hz1, hk1⟩, stg⟩ := hr T hT X
  cases hv
  rw [h0] at hz1 hk1
  have hst : (v1.toList ++ r).map (emv pre base) = (v1.map (emv pre base)).toList ++ r.map (emv pre base) := by cases v1 <;> simp
  have k2 := kk lsA T'.heap (locs ++ L) hL (by rw [e1]; exact hR1) ⟨Nat.le_trans hS.1 (by rw [e1]; omega), fun q q1 q2 => by rw [e1, hk1 q (Nat.lt_of_lt_of_le q1 hS.1) q2]; exact hS.2.1 q q1 q2, fun q hq => by
    rcases List.mem_append.mp hq with h3 | h3
    · exact hS.2.2 q h3
    · exact hL' q h3⟩ (by rw [e1, hz1]; omega)
  rw [hst] at k2
  obtain ⟨t2, a1, b1⟩ := k2 T' rfl X'
  exact ⟨t2, stg t2 a1, b1⟩
end RUN
end
section
/-! The whole run, by fuel. -/
section RUN
variable {l : Launch} {D : va_G} {cl : List vw_C} {dA : Nat → ClassId} {pre : Nat → Nat} {base : Nat} {tyL : List FieldType} {Ts NW : List Cond} {G : GI} {YB : YT}
variable {p : Program} {e : Env} {R : Room} {s : State} {m : MethodId} {args : Array Value} {below : List Frame} {meth : Method} {c : Code} {Q : State → Prop}
theorem good_cons {y : Nat} {Ts : List Cond} {G : GI} {YB : YT} {n : Nat} (hG : ∀ w ∈ Ts, goodWord w = true) (hC : CFok Ts G YB y n) : GoodIn Ts (Cond.code (YB y).1 (YB y).2 (G.2.1 y) (G.2.2.2.2.2.1 y) :: Ts) := by
  intro w hw
  rcases List.mem_cons.mp hw with rfl | hw
  · exact ⟨hC.1, good_of_word (hG _ hC.1)⟩
  · exact ⟨hw, good_of_word (hG _ hw)⟩
theorem drop_ref {st r : List Value} {y b : Nat} (h : st.drop y = .ref b :: r) (pre : Nat → Nat) (base : Nat) : st.map (emv pre base) = (((st.take y).reverse).map (emv pre base)).reverse ++ .ref (mad pre base b) :: r.map (emv pre base) ∧ (((st.take y).reverse).map (emv pre base)).length = y := by
  have hl : y < st.length := by
    rcases Nat.lt_or_ge y st.length with h1 | h1
    · exact h1
    · rw [List.drop_eq_nil_of_le h1] at h
      cases h
  constructor
  · have h1 : st = st.take y ++ (.ref b :: r) := by rw [← h, List.take_append_drop]
    have h2 : st.map (emv pre base) = (st.take y ++ (.ref b :: r)).map (emv pre base) := congrArg _ h1
    rw [h2, List.map_append, List.map_reverse, List.reverse_reverse]
    rfl
  · rw [List.length_map, List.length_reverse, List.length_take]
    omega
/-- a call: what the small machine asks of it is what the machine asks -/
theorem stp_call {M pc nx x y d K N cells slots : Nat} {i : Instr} {ls : ML} {st as r : List Value} {h h1 : MH} {cy pc' k1 n1 : Nat} {v1 : Option Value}
    (hNW : ∀ w ∈ NW, nst w) (hG : ∀ w ∈ Ts, goodWord w = true)
    (X : mCx p s m args c D cl dA pre base tyL Ts G (YB M).2 (YB M).1.cls (G.2.1 M)) (hF : mFx D cl dA pre base tyL NW G s)
    (hE : EOK Ts NW cl tyL G YB M pc i nx x y) (hk : ikd i = 3) (hz : stepI G M pc i nx x y ls st h = some (.inr (.inl (cy, as, r, pc'))))
    (hr8 : mwid r ≤ 8) (hw : mwid as ≤ G.2.1 cy) (h21 : G.2.1 cy ≤ 21) (hB : mBody l D cl dA pre base tyL Ts NW G YB d cy 0 (ment 0 as) [] h 0 0 v1 h1 k1 n1)
    (hck : cells + k1 ≤ K) (hcn : slots + n1 ≤ N)
    (kk : mGo p l e (rmOf (d + 1) K N) s m args below meth c Q D cl dA pre base (G.2.1 M) pc' ls (v1.toList ++ r) h1 (cells + k1) (slots + n1)) :
    mGo p l e (rmOf (d + 1) K N) s m args below meth c Q D cl dA pre base (G.2.1 M) pc ls st h cells slots := by
  have hroom : (rmOf d k1 n1).frames + 1 ≤ (rmOf (d + 1) K N).frames ∧ 8 + (G.2.1 cy + 11) + (rmOf d k1 n1).locals ≤ (rmOf (d + 1) K N).locals := by
    unfold rmOf
    constructor
    · simp only; omega
    · simp only; omega
  have hfix : CallFix p m c (YB M).2 (G.2.1 M) s args Ts (YB M).1.cls := ⟨X.1, X.2.1, X.2.2.1, X.2.2.2.1, X.2.2.2.2.1⟩
  have hts := X.2.2.2.2.1
  have hmon : ∀ (lsA : Array Slot) (stA : List Value), 2 * (F0 m pc lsA stA).monitorRoom + ((r.map (emv pre base)).map fun v => v.category).sum ≤ 8 := fun lsA stA => by
    rw [mwid_map]
    show 2 * 0 + _ ≤ 8
    omega
  cases i with
  | invokevirtual idx =>
    obtain ⟨n1', n2', hC, hl, hin, hse, T, N', hcl⟩ := hE.2
    have hz1 : (if x = 9001 then _ else if x = 9002 then _ else _) = _ := hz
    rw [if_neg n1', if_neg n2'] at hz1
    cases hd : st.drop y with
    | nil => rw [hd] at hz1; cases hz1
    | cons v0 r0 =>
      rw [hd] at hz1
      cases v0 with
      | ref b =>
        simp only at hz1
        cases hg : mget h b with
        | none => rw [hg] at hz1; cases hz1
        | some w =>
          rw [hg] at hz1
          rcases w with w | ⟨ci, fs⟩
          · cases hz1
          · obtain ⟨hci, hz2⟩ := if_ok hz1
            cases hz2
            have hpc : nx = pc + 3 := hE.1.2
            subst hpc
            intro lsA H locs hL hR hS hZ
            obtain ⟨g1, g2⟩ := drop_ref hd pre base
            refine cl_go (va_runV (C := (YB x).1.cls) (b := mad pre base b) (As := ((st.take y).reverse).map (emv pre base)) (rest := r.map (emv pre base)) hfix (met_of hC hw hB) ⟨callB_of y hts (good_cons hG hC) rfl rfl rfl (hts _ hC.2.1) (hts _ hl) ⟨hC.2.2.2.1.1, hC.2.2.2.1.2, hC.2.2.2.2⟩ hroom, hts _ hin, hts _ hse⟩ ⟨mPc_blind hNW, ?_, fun U hU hW => ⟨rfl, by rw [hU]; exact hR, mFx_on hNW hF hS hU hW⟩⟩ rfl g2 hL.1 g1 (hmon _ _) hE.1.1 ⟨hck, hcn⟩) hL hS hZ kk
            rw [← hci] at hcl
            exact va_recv X.2.2.2.2.2.1 hR.2.1 hcl (mws_get hR.1 hg)
      | _ => cases hz1
  | invokespecial idx =>
    rcases hE.2 with ⟨hx, -⟩ | ⟨hx, hC, hl, hin, hnm, hret⟩
    · have hz1 : (if x = 0 then _ else _) = _ := hz
      rw [if_pos hx] at hz1
      obtain ⟨a, r0, rfl, hz2⟩ := s1r_ok hz1
      obtain ⟨-, hz3⟩ := if_ok hz2
      cases hz3
    · have hz1 : (if x = 0 then _ else _) = _ := hz
      rw [if_neg hx] at hz1
      cases hd : st.drop y with
      | nil => rw [hd] at hz1; cases hz1
      | cons v0 r0 =>
        rw [hd] at hz1
        cases v0 with
        | ref b =>
          cases hz1
          have hpc : nx = pc + 3 := hE.1.2
          subst hpc
          intro lsA H locs hL hR hS hZ
          obtain ⟨g1, g2⟩ := drop_ref hd pre base
          have hMet := met_of (l := l) hC hw hB
          have hgood := good_cons hG hC
          rw [hret] at hMet hgood
          have hPS : PreS s H (mPc D cl dA pre base tyL NW G (.ref b :: (st.take y).reverse) h) (.ref (mad pre base b) :: ((st.take y).reverse).map (emv pre base)) := ⟨mPc_blind hNW, fun U hU hW => ⟨rfl, by rw [hU]; exact hR, mFx_on hNW hF hS hU hW⟩⟩
          rcases hl with hl | ⟨host, hl⟩
          · exact cl_go (va_runI (b := mad pre base b) (As := ((st.take y).reverse).map (emv pre base)) (rest := r.map (emv pre base)) hfix hMet ⟨callB_of y hts hgood rfl rfl rfl (hts _ hC.2.1) (hts _ hl) ⟨hC.2.2.2.1.1, hC.2.2.2.1.2, hC.2.2.2.2⟩ hroom, hnm, hts _ hin⟩ hPS rfl g2 hL.1 g1 (hmon _ _) hE.1.1 ⟨hck, hcn⟩) hL hS hZ kk
          · exact cl_go (va_runIN (host := host) (b := mad pre base b) (As := ((st.take y).reverse).map (emv pre base)) (rest := r.map (emv pre base)) hfix hMet ⟨va_cnB y hts hgood rfl rfl rfl (hF.2.2.2.1 _ hl) (hts _ hC.2.1) ⟨hC.2.2.2.1.1, hC.2.2.2.1.2, hC.2.2.2.2⟩ hroom, hnm, hts _ hin⟩ hPS rfl g2 hL.1 g1 (hmon _ _) hE.1.1 ⟨hck, hcn⟩) hL hS hZ kk
        | _ => cases hz1
  | invokestatic idx =>
    rcases hE.2 with ⟨hx, -⟩ | ⟨hx, hC, hl, hstt⟩
    · have hz1 : (if x = 9000 then _ else _) = _ := hz
      rw [if_pos hx] at hz1
      obtain ⟨a, b, r0, rfl, hz2⟩ := s2i_ok hz1
      obtain ⟨-, hz3⟩ := if_ok hz2
      cases hz3
    · have hz1 : (if x = 9000 then _ else _) = _ := hz
      rw [if_neg hx] at hz1
      obtain ⟨hlen, hz2⟩ := if_ok hz1
      cases hz2
      have hpc : nx = pc + 3 := hE.1.2
      subst hpc
      intro lsA H locs hL hR hS hZ
      have g1 : st.map (emv pre base) = (((st.take y).reverse).map (emv pre base)).reverse ++ (st.drop y).map (emv pre base) := by
        rw [List.map_reverse, List.reverse_reverse, ← List.map_append, List.take_append_drop]
      have g2 : (((st.take y).reverse).map (emv pre base)).length = y := by
        rw [List.length_map, List.length_reverse, List.length_take]
        omega
      have hPS : PreS s H (mPc D cl dA pre base tyL NW G ((st.take y).reverse) h) (((st.take y).reverse).map (emv pre base)) := ⟨mPc_blind hNW, fun U hU hW => ⟨rfl, by rw [hU]; exact hR, mFx_on hNW hF hS hU hW⟩⟩
      have hgood := good_cons hG hC
      rcases hl with hl | ⟨host, hl⟩
      · exact cl_go (va_runS (As := ((st.take y).reverse).map (emv pre base)) (rest := (st.drop y).map (emv pre base)) hfix (met_of hC hw hB) ⟨callB_of y hts hgood rfl rfl rfl (hts _ hC.2.1) (hts _ hl) ⟨hC.2.2.2.1.1, hC.2.2.2.1.2, hC.2.2.2.2⟩ hroom, hts _ hstt⟩ hPS rfl g2 hL.1 g1 (hmon _ _) hE.1.1 ⟨hck, hcn⟩) hL hS hZ kk
      · exact cl_go (va_runSN (host := host) (As := ((st.take y).reverse).map (emv pre base)) (rest := (st.drop y).map (emv pre base)) hfix (met_of hC hw hB) ⟨va_cnB y hts hgood rfl rfl rfl (hF.2.2.2.1 _ hl) (hts _ hC.2.1) ⟨hC.2.2.2.1.1, hC.2.2.2.1.2, hC.2.2.2.2⟩ hroom, hts _ hstt, trivial⟩ hPS rfl g2 hL.1 g1 (hmon _ _) hE.1.1 ⟨hck, hcn⟩) hL hS hZ kk
  | _ => first | exact absurd (show (0 : Nat) = 3 from hk) (by decide) | exact absurd (show (1 : Nat) = 3 from hk) (by decide) | exact absurd (show (2 : Nat) = 3 from hk) (by decide) | exact absurd (show (4 : Nat) = 3 from hk) (by decide)
theorem stp_no {M pc nx x y : Nat} {i : Instr} {ls : ML} {st : List Value} {h : MH} {w : Option Value} (hk : ikd i = 3) : ¬ stepI G M pc i nx x y ls st h = some (.inr (.inr (.inl w))) := by
  intro hz
  cases i <;> first
    | (exact absurd (show (0 : Nat) = 3 from hk) (by decide)) | (exact absurd (show (1 : Nat) = 3 from hk) (by decide)) | (exact absurd (show (2 : Nat) = 3 from hk) (by decide)) | (exact absurd (show (4 : Nat) = 3 from hk) (by decide))
    | (simp only [stepI, okk, s2i, s1i, s1r, s1] at hz
       repeat' split at hz
       all_goals (cases hz; done))
theorem stp_no2 {M pc nx x y : Nat} {i : Instr} {ls : ML} {st : List Value} {h : MH} {w : List (Bool × Nat) × ML × List Value} (hk : ikd i = 3) : ¬ stepI G M pc i nx x y ls st h = some (.inr (.inr (.inr w))) := by
  intro hz
  cases i <;> first
    | (exact absurd (show (0 : Nat) = 3 from hk) (by decide)) | (exact absurd (show (1 : Nat) = 3 from hk) (by decide)) | (exact absurd (show (2 : Nat) = 3 from hk) (by decide)) | (exact absurd (show (4 : Nat) = 3 from hk) (by decide))
    | (simp only [stepI, okk, s2i, s1i, s1r, s1] at hz
       repeat' split at hz
       all_goals (cases hz; done))
/-- the calls that the small machine makes at one step: Object's constructor, Math.min -/
theorem stp_sp {M pc nx x y d K N cells slots : Nat} {i : Instr} {ls : ML} {st : List Value} {h : MH} {z : Nat × ML × List Value × MH × Nat × Nat}
    (X : mCx p s m args c D cl dA pre base tyL Ts G (YB M).2 (YB M).1.cls (G.2.1 M)) (hF : mFx D cl dA pre base tyL NW G s)
    (hE : EOK Ts NW cl tyL G YB M pc i nx x y) (hk : ikd i = 3) (hc : cells + z.2.2.2.2.1 ≤ K) (hn : slots + z.2.2.2.2.2 ≤ N) (hz : stepI G M pc i nx x y ls st h = some (.inl z))
    (kk : mGo p l e (rmOf d K N) s m args below meth c Q D cl dA pre base (G.2.1 M) z.1 z.2.1 z.2.2.1 z.2.2.2.1 (cells + z.2.2.2.2.1) (slots + z.2.2.2.2.2)) :
    mGo p l e (rmOf d K N) s m args below meth c Q D cl dA pre base (G.2.1 M) pc ls st h cells slots := by
  have hRf : 1 ≤ (rmOf d K N).frames := by unfold rmOf; simp only; omega
  have hRl : 21 ≤ (rmOf d K N).locals := by unfold rmOf; simp only; omega
  cases i with
  | invokevirtual idx =>
    obtain ⟨n1', n2', -⟩ := hE.2
    have hz1 : (if x = 9001 then _ else if x = 9002 then _ else _) = _ := hz
    rw [if_neg n1', if_neg n2'] at hz1
    split at hz1
    · split at hz1
      · obtain ⟨-, hz2⟩ := if_ok hz1
        cases hz2
      · cases hz1
    · cases hz1
  | invokespecial idx =>
    rcases hE.2 with ⟨hx, h1, h2, h3⟩ | ⟨hx, -⟩
    · exact so_objInit X hE.1.1 hE.1.2 hx h1 h2 h3 hRf (Nat.le_of_succ_le hRl) hz kk
    · have hz1 : (if x = 0 then _ else _) = _ := hz
      rw [if_neg hx] at hz1
      split at hz1
      · cases hz1
      · cases hz1
  | invokestatic idx =>
    rcases hE.2 with ⟨hx, h1, h2, h3, h4⟩ | ⟨hx, -⟩
    · exact so_mmin X hE.1.1 hE.1.2 hx h1 h2 h3 h4 hRf hRl hc hn hz kk
    · have hz1 : (if x = 9000 then _ else _) = _ := hz
      rw [if_neg hx] at hz1
      obtain ⟨-, hz2⟩ := if_ok hz1
      cases hz2
  | _ => first | exact absurd (show (0 : Nat) = 3 from hk) (by decide) | exact absurd (show (1 : Nat) = 3 from hk) (by decide) | exact absurd (show (2 : Nat) = 3 from hk) (by decide) | exact absurd (show (4 : Nat) = 3 from hk) (by decide)
/-- cells and slots are only made -/
theorem mrun_mono {G : GI} : ∀ (f d M pc : Nat) (ls : ML) (st : List Value) (h : MH) (k n : Nat) (v : Option Value) (h' : MH) (k' n' : Nat), mrun G f d M pc ls st h k n = some (v, h', k', n') → k ≤ k' ∧ n ≤ n' := by
  intro f
  induction f with
  | zero => intro d M pc ls st h k n v h' k' n' hr; rw [mrun_0] at hr; cases hr
  | succ f ih =>
    intro d M pc ls st h k n v h' k' n' hr
    rw [mrun_s] at hr
    cases hst : mstep G M pc ls st h with
    | none => rw [hst] at hr; cases hr
    | some z =>
      rw [hst] at hr
      rcases z with ⟨pc', ls', st', h1, dk, dn⟩ | ⟨y, as, r, pc'⟩ | w | ⟨alts, ls', st'⟩
      · have := ih _ _ _ _ _ _ _ _ _ _ _ _ hr
        omega
      · obtain ⟨-, hr⟩ := if_ok hr
        cases d with
        | zero => cases hr
        | succ d =>
          simp only at hr
          cases hcal : mrun G f d y 0 (ment 0 as) [] h 0 0 with
          | none => rw [hcal] at hr; cases hr
          | some q =>
            obtain ⟨v1, h1, k1, n1⟩ := q
            rw [hcal] at hr
            have := ih _ _ _ _ _ _ _ _ _ _ _ _ hr
            omega
      · cases hr
        exact ⟨Nat.le_refl _, Nat.le_refl _⟩
      · simp only at hr
        cases hfind : alts.find? (fun q => q.1) with
        | none => rw [hfind] at hr; cases hr
        | some q =>
          rw [hfind] at hr
          exact ih _ _ _ _ _ _ _ _ _ _ _ _ hr
/-- A RUN OF THE SMALL MACHINE IS A RUN OF THE MACHINE. -/
theorem mrun_ok (hTL : mTL tyL) (hNW : ∀ w ∈ NW, nst w) (hG : ∀ w ∈ Ts, goodWord w = true) (hE : ∀ (M pc : Nat) (i : Instr) (nx x y : Nat), G.1 M pc = some (i, nx, x, y) → EOK Ts NW cl tyL G YB M pc i nx x y) :
    ∀ (f d M pc : Nat) (ls : ML) (st : List Value) (h : MH) (k n : Nat) (v : Option Value) (h' : MH) (k' n' : Nat), mrun G f d M pc ls st h k n = some (v, h', k', n') → mBody l D cl dA pre base tyL Ts NW G YB d M pc ls st h k n v h' k' n' := by
  intro f
  induction f with
  | zero => intro d M pc ls st h k n v h' k' n' hr; rw [mrun_0] at hr; cases hr
  | succ f ih =>
    intro d M pc ls st h k n v h' k' n' hr
    rw [mrun_s] at hr
    cases hst : mstep G M pc ls st h with
    | none => rw [hst] at hr; cases hr
    | some z =>
      rw [hst] at hr
      unfold mstep at hst
      cases he : G.1 M pc with
      | none => rw [he] at hst; cases hst
      | some en =>
        obtain ⟨i, nx, x, y⟩ := en
        rw [he] at hst
        have hst : stepI G M pc i nx x y ls st h = some z := hst
        have hE1 := hE M pc i nx x y he
        intro p e s m args below meth c X hF hlocks hret hname
        have hkd : ikd i = 0 ∨ ikd i = 1 ∨ ikd i = 2 ∨ ikd i = 3 ∨ ikd i = 4 := by cases i <;> first | exact Or.inl rfl | exact Or.inr (Or.inl rfl) | exact Or.inr (Or.inr (Or.inl rfl)) | exact Or.inr (Or.inr (Or.inr (Or.inl rfl))) | exact Or.inr (Or.inr (Or.inr (Or.inr rfl)))
        have onStep : ∀ q : Nat × ML × List Value × MH × Nat × Nat, z = .inl q → (∀ (kk : mGo p l e (rmOf d k' n') s m args below meth c (MQ below (mQc D cl dA pre base v h' k') args s k' n' (fun q => base ≤ q)) D cl dA pre base (G.2.1 M) q.1 q.2.1 q.2.2.1 q.2.2.2.1 (k + q.2.2.2.2.1) (n + q.2.2.2.2.2)), k + q.2.2.2.2.1 ≤ k' → n + q.2.2.2.2.2 ≤ n' → mGo p l e (rmOf d k' n') s m args below meth c (MQ below (mQc D cl dA pre base v h' k') args s k' n' (fun q => base ≤ q)) D cl dA pre base (G.2.1 M) pc ls st h k n) → mGo p l e (rmOf d k' n') s m args below meth c (MQ below (mQc D cl dA pre base v h' k') args s k' n' (fun q => base ≤ q)) D cl dA pre base (G.2.1 M) pc ls st h k n := by
          intro q hq hgo
          subst hq
          obtain ⟨pc', ls', st', h1, dk, dn⟩ := q
          have hm := mrun_mono _ _ _ _ _ _ _ _ _ _ _ _ _ hr
          exact hgo (ih _ _ _ _ _ _ _ _ _ _ _ _ hr p e s m args below meth c X hF hlocks hret hname) hm.1 hm.2
        rcases hkd with hk | hk | hk | hk | hk
        · obtain ⟨q, hq⟩ := on_only hk hst
          refine onStep q hq fun kk hc hn => ?_
          rw [hq] at hst
          exact stp_on X hF hTL hname hE1 hk hc hn hst kk
        · obtain ⟨alts, ls', st', hq⟩ := br_only hk hst
          subst hq
          simp only at hr
          cases hfind : alts.find? (fun q => q.1) with
          | none => rw [hfind] at hr; cases hr
          | some q =>
            obtain ⟨b, pc'⟩ := q
            rw [hfind] at hr
            have h1 := List.mem_of_find?_eq_some hfind
            have h2 : b = true := by simpa using List.find?_some hfind
            rw [h2] at h1
            exact stp_br X hE1 hk hst h1 (ih _ _ _ _ _ _ _ _ _ _ _ _ hr p e s m args below meth c X hF hlocks hret hname)
        · obtain ⟨w, hq⟩ := rt_only hk hst
          subst hq
          cases hr
          exact stp_rt X hlocks hret hE1 hk hst
        · rcases z with q | ⟨cy, as, r, pc'⟩ | w | ⟨alts, ls', st'⟩
          · refine onStep q rfl fun kk hc hn => ?_
            exact stp_sp X hF hE1 hk hc hn hst kk
          · obtain ⟨hchk, hr⟩ := if_ok hr
            simp only [Bool.and_eq_true, decide_eq_true_eq] at hchk
            cases d with
            | zero => cases hr
            | succ d =>
              simp only at hr
              cases hcal : mrun G f d cy 0 (ment 0 as) [] h 0 0 with
              | none => rw [hcal] at hr; cases hr
              | some q =>
                obtain ⟨v1, h1, k1, n1⟩ := q
                rw [hcal] at hr
                have hm := mrun_mono _ _ _ _ _ _ _ _ _ _ _ _ _ hr
                exact stp_call hNW hG X hF hE1 hk hst hchk.1 hchk.2.1 hchk.2.2 (ih _ _ _ _ _ _ _ _ _ _ _ _ hcal) hm.1 hm.2 (ih _ _ _ _ _ _ _ _ _ _ _ _ hr p e s m args below meth c X hF hlocks hret hname)
          · exact absurd hst (stp_no hk)
          · exact absurd hst (stp_no2 hk)
        · exact (no_only hk hst).elim
end RUN
end
