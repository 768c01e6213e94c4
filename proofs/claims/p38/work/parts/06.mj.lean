/-! A small machine of our own: what a method of the claim does to cells told by numbers, as a function that can be reckoned. -/
/-- what a row holds: what was written, the newest first -/
abbrev MA : Type := (List (Nat × Value)) ⊕ (List (Nat × Option Nat))
def rdI (l : List (Nat × Value)) (j : Nat) : Value := match l with
  | [] => .int 0
  | (k, v) :: r => if j = k then v else rdI r j
def rdQ (l : List (Nat × Option Nat)) (j : Nat) : Option Nat := match l with
  | [] => none
  | (k, v) :: r => if j = k then v else rdQ r j
/-- a cell: an array (which type, how long, what it holds), or an object (which class, its fields) -/
abbrev ME : Type := (Nat × Nat × MA) ⊕ (Nat × List Value)
/-- how many numbers are given; the cells, the newest first (numbers below 64 are cells that were there, read only: rows of ints below 8, texts from 8 on) -/
abbrev MH : Type := Nat × List ME
abbrev ML : Type := List (Nat × Value)
def mget (h : MH) (k : Nat) : Option ME := if k < h.1 then h.2[h.1 - 1 - k]? else none
def mput (h : MH) (k : Nat) (e : ME) : MH := (h.1, h.2.set (h.1 - 1 - k) e)
def mpush (h : MH) (e : ME) : MH := (h.1 + 1, e :: h.2)
def lkl (ls : ML) (i : Nat) : Option Value := (ls.find? (fun q => q.1 == i)).map (fun q => q.2)
def sto1 (ls : ML) (i : Nat) (v : Value) : ML := (i, v) :: ls.filter (fun q => !(q.1 == i) && !(q.1 + 1 == i && q.2.category == 2))
def sto2 (ls : ML) (i : Nat) (v : Value) : ML := (i, v) :: ls.filter (fun q => !(q.1 == i) && (!(q.1 == i + 1) && !(q.1 + 1 == i && q.2.category == 2)))
/-- a condition on two ints: 0 equal, 1 not, 2 less, 3 at least, 4 more, 5 at most; an int may be one of the script's, told by its place (retAddr) -/
abbrev CD : Type := Nat × Value × Value
def lohi (iv : List (Int × Int)) (v : Value) : Option (Int × Int) := match v with
  | .int a => some (a.toInt, a.toInt)
  | .retAddr j => iv[j]?
  | _ => none
/-- whether a condition follows from the bounds of the script's ints -/
def ent (iv : List (Int × Int)) (c : CD) : Bool := match lohi iv c.2.1, lohi iv c.2.2 with
  | some (a, b), some (u, w) => match c.1 with
    | 0 => (decide (a = b) && (decide (u = w) && decide (a = u))) || decide (c.2.1 = c.2.2)
    | 1 => decide (b < u) || decide (w < a)
    | 2 => decide (b < u)
    | 3 => decide (w ≤ a)
    | 4 => decide (w < a)
    | 5 => decide (b ≤ u)
    | _ => false
  | _, _ => false
def cop (c : Jvm.ClassFile.Cond) : Nat := match c with
  | .eq => 0
  | .ne => 1
  | .lt => 2
  | .ge => 3
  | .gt => 4
  | .le => 5
def cno (n : Nat) : Nat := match n with
  | 0 => 1
  | 1 => 0
  | 2 => 3
  | 3 => 2
  | 4 => 5
  | _ => 4
/-- on: (next place, locals, stack, heap, cells made, slots made); a call: (callee, arguments, the stack below, next place); an answer; a branch: (conditions and places, locals, stack) -/
abbrev ST : Type := (Nat × ML × List Value × MH × Nat × Nat) ⊕ ((Nat × List Value × List Value × Nat) ⊕ (Option Value ⊕ (List (CD × Nat) × ML × List Value)))
def okk (nx : Nat) (ls : ML) (st : List Value) (h : MH) : Option ST := some (.inl (nx, ls, st, h, 0, 0))
def brr (n : Nat) (v w : Value) (x nx : Nat) (ls : ML) (st : List Value) : Option ST := some (.inr (.inr (.inr ([((n, v, w), x), ((cno n, v, w), nx)], ls, st))))
def isI (v : Value) : Bool := match v with
  | .int _ | .retAddr _ => true
  | _ => false
def s1 (st : List Value) (k : Value → List Value → Option ST) : Option ST := match st with
  | v :: r => k v r
  | [] => none
def s1i (st : List Value) (k : Int32 → List Value → Option ST) : Option ST := s1 st fun v r => match v with
  | .int a => k a r
  | _ => none
def s1l (st : List Value) (k : Int64 → List Value → Option ST) : Option ST := s1 st fun v r => match v with
  | .long a => k a r
  | _ => none
def s1r (st : List Value) (k : Nat → List Value → Option ST) : Option ST := s1 st fun v r => match v with
  | .ref a => k a r
  | _ => none
def s2i (st : List Value) (k : Int32 → Int32 → List Value → Option ST) : Option ST := s1i st fun b r => s1i r fun a r => k a b r
def s2l (st : List Value) (k : Int64 → Int64 → List Value → Option ST) : Option ST := s1l st fun b r => s1l r fun a r => k a b r
def rfo (v : Value) : Option (Option Nat) := match v with
  | .ref a => some (some a)
  | .null => some none
  | _ => none
def vin (i : Int32) (n : Nat) : Bool := decide (0 ≤ i) && decide (i.toNatClampNeg < n)
def cat1 (v : Value) : Bool := match v with
  | .int _ | .ref _ | .null | .retAddr _ => true
  | _ => false
def s1n (st : List Value) (k : Value → List Value → Option ST) : Option ST := s1 st fun v r => if isI v then k v r else none
/-- the script's int at a place: itself, if its bounds are one number -/
def symv (iv : List (Int × Int)) (j : Nat) : Value := match iv[j]? with
  | some (a, b) => if a = b then .int (Int32.ofInt a) else .retAddr j
  | none => .retAddr j
/-- an int row that can be read: its length and what it holds (0 is the script) -/
def irow (iv : List (Int × Int)) (G : GI) (h : MH) (a t : Nat) : Option (Nat × (Nat → Value)) := if a < 8 then (if t = 0 then (match G.2.2.1 a with
    | some (n, f) => some (n, fun j => if a = 0 then symv iv j else .int (f j))
    | none => none) else none) else match mget h a with
  | some (.inl (ti, n, .inl f)) => if ti = t then some (n, rdI f) else none
  | _ => none
def stload (ls : ML) (i nx : Nat) (st : List Value) (h : MH) (ok : Value → Bool) : Option ST := match lkl ls i with
  | some v => if ok v then okk nx ls (v :: st) h else none
  | none => none
def isL (v : Value) : Bool := match v with
  | .long _ => true
  | _ => false
def isR (v : Value) : Bool := match v with
  | .ref _ | .null => true
  | _ => false
def ststore1 (G : GI) (M : Nat) (ls : ML) (i nx : Nat) (st : List Value) (h : MH) (ok : Value → Bool) : Option ST := s1 st fun v r => if ok v && decide (i < G.2.1 M) then okk nx (sto1 ls i v) r h else none
def ststore2 (G : GI) (M : Nat) (ls : ML) (i nx : Nat) (st : List Value) (h : MH) : Option ST := s1 st fun v r => if isL v && decide (i + 1 < G.2.1 M) then okk nx (sto2 ls i v) r h else none
/-- may a value stand in a field, a cell, an answer of a type -/
def fitB (ty : FieldType) (v : Value) : Bool := match ty with
  | .int => isI v
  | .boolean => match v with
    | .int b => decide (b = 0) || decide (b = 1)
    | _ => false
  | .long => isL v
  | .object _ => isR v
  | .array _ => isR v
  | _ => false
def swAlts (v : Value) (lo : Int) (offs : List Nat) : List (CD × Nat) := match offs with
  | [] => []
  | o :: r => ((0, v, .int (Int32.ofInt lo)), o) :: swAlts v (lo + 1) r
def big (a : Option Nat) : Bool := match a with
  | some z => decide (64 ≤ z)
  | none => true
def mwid (vs : List Value) : Nat := (vs.map fun v => v.category).sum
def natI (n : Int) : Nat := n.toNat
/-- one instruction; x, y by its kind: a jump's goal; a field's class and place; a class; a row's type; a callee and how many arguments it takes; a constant -/
def stepI (iv : List (Int × Int)) (G : GI) (M pc : Nat) (i : Instr) (nx x y : Nat) (ls : ML) (st : List Value) (h : MH) : Option ST := match i with
  | .iconst n => okk nx ls (.int (Int32.ofInt n) :: st) h
  | .bipush n => okk nx ls (.int (Int8.ofInt n).toInt32 :: st) h
  | .sipush n => okk nx ls (.int (Int16.ofInt n).toInt32 :: st) h
  | .lconst n => okk nx ls (.long (Int64.ofNat (n : Nat)) :: st) h
  | .aconst_null => okk nx ls (.null :: st) h
  | .ldc _ => if y = 0 then okk nx ls (.int (Int32.ofNat x) :: st) h else okk nx ls (.ref x :: st) h
  | .ldc_w _ => if y = 0 then okk nx ls (.int (Int32.ofNat x) :: st) h else okk nx ls (.ref x :: st) h
  | .ldc2_w _ => okk nx ls (.long (Int64.ofNat x) :: st) h
  | .iload_n k => stload ls k nx st h isI
  | .iload k => stload ls k nx st h isI
  | .lload_n k => stload ls k nx st h isL
  | .lload k => stload ls k nx st h isL
  | .aload_n k => stload ls k nx st h isR
  | .aload k => stload ls k nx st h isR
  | .istore_n k => ststore1 G M ls k nx st h isI
  | .istore k => ststore1 G M ls k nx st h isI
  | .astore_n k => ststore1 G M ls k nx st h isR
  | .astore k => ststore1 G M ls k nx st h isR
  | .lstore_n k => ststore2 G M ls k nx st h
  | .lstore k => ststore2 G M ls k nx st h
  | .iinc k n => match lkl ls k with
    | some (.int a) => if k < G.2.1 M then okk nx (sto1 ls k (.int (a + Int32.ofInt n))) st h else none
    | some (.retAddr j) => if decide (k < G.2.1 M) && (decide (j < 4) && (decide (n = -1) && decide (iv.length ≤ 5))) then okk nx (sto1 ls k (.retAddr (j + 8))) st h else none
    | _ => none
  | .iadd => s2i st fun a b r => okk nx ls (.int (a + b) :: r) h
  | .isub => s2i st fun a b r => okk nx ls (.int (a - b) :: r) h
  | .imul => s2i st fun a b r => okk nx ls (.int (a * b) :: r) h
  | .iand => s1n st fun b r => s1n r fun a r => match a, b with
    | .int u, .int w => okk nx ls (.int (u &&& w) :: r) h
    | .retAddr j, .int w => if decide (j < 4) && (decide (w = 63) && decide (iv.length ≤ 5)) then okk nx ls (.retAddr (j + 4) :: r) h else none
    | _, _ => none
  | .idiv => s2i st fun a b r => if b = 0 then none else okk nx ls (.int (a / b) :: r) h
  | .irem => s2i st fun a b r => if b = 0 then none else okk nx ls (.int (a - a / b * b) :: r) h
  | .ineg => s1i st fun a r => okk nx ls (.int (-a) :: r) h
  | .i2l => s1i st fun a r => okk nx ls (.long a.toInt64 :: r) h
  | .i2b => s1i st fun a r => okk nx ls (.int a.toInt8.toInt32 :: r) h
  | .l2i => s1l st fun a r => okk nx ls (.int a.toInt32 :: r) h
  | .ladd => s2l st fun a b r => okk nx ls (.long (a + b) :: r) h
  | .lmul => s2l st fun a b r => okk nx ls (.long (a * b) :: r) h
  | .ldiv => s2l st fun a b r => if b = 0 then none else okk nx ls (.long (a / b) :: r) h
  | .lrem => s2l st fun a b r => if b = 0 then none else okk nx ls (.long (a - a / b * b) :: r) h
  | .lneg => s1l st fun a r => okk nx ls (.long (-a) :: r) h
  | .lcmp => s2l st fun a b r => okk nx ls (.int (lg_cmp a b) :: r) h
  | .dup => s1 st fun v r => if cat1 v then okk nx ls (v :: v :: r) h else none
  | .pop => s1 st fun v r => if cat1 v then okk nx ls r h else none
  | .pop2 => s1 st fun v r => if isL v then okk nx ls r h else none
  | .dup_x1 => s1 st fun v r => s1 r fun w r => if cat1 v && cat1 w then okk nx ls (v :: w :: v :: r) h else none
  | .dup2 => s1 st fun v r => s1 r fun w r => if cat1 v && cat1 w then okk nx ls (v :: w :: v :: w :: r) h else none
  | .goto _ => okk x ls st h
  | .ifCond c _ => s1n st fun a r => brr (cop c) a (.int 0) x nx ls r
  | .if_icmp c _ => s1n st fun b r => s1n r fun a r => brr (cop c) a b x nx ls r
  | .if_acmp c _ => s1 st fun v r => s1 r fun w r => match rfo v, rfo w with
    | some a, some b => if big a && big b then okk (match c with
      | .eq => if b = a then x else nx
      | .ne => if b = a then nx else x) ls r h else none
    | _, _ => none
  | .ifnull _ => s1 st fun v r => match v with
    | .null => okk x ls r h
    | .ref _ => okk nx ls r h
    | _ => none
  | .ifnonnull _ => s1 st fun v r => match v with
    | .null => okk nx ls r h
    | .ref _ => okk x ls r h
    | _ => none
  | .tableswitch d lo hi offs => s1n st fun a r => if decide (-2147483648 ≤ lo) && decide (hi ≤ 2147483647) then some (.inr (.inr (.inr (((2, a, .int (Int32.ofInt lo)), natI ((pc : Int) + d)) :: ((4, a, .int (Int32.ofInt hi)), natI ((pc : Int) + d)) :: swAlts a lo (offs.toList.map fun o => natI ((pc : Int) + o)), ls, r)))) else none
  | .getfield _ => s1r st fun a r => match mget h a with
    | some (.inr (ci, fs)) => if ci = x then (match fs[y]? with
      | some v => okk nx ls (v :: r) h
      | none => none) else none
    | _ => none
  | .putfield _ => s1 st fun v r => s1r r fun a r => match mget h a with
    | some (.inr (ci, fs)) => if ci = x && fitB (G.2.2.2.2.1 x y) v && decide (y < fs.length) then okk nx ls r (mput h a (.inr (ci, fs.set y v))) else none
    | _ => none
  | .getstatic _ => okk nx ls (.ref x :: st) h
  | .arraylength => s1r st fun a r => if a < 8 then (match G.2.2.1 a with
      | some (n, _) => okk nx ls (.int (Int32.ofNat n) :: r) h
      | none => none) else match mget h a with
    | some (.inl (ti, n, _)) => if ti < 8 then okk nx ls (.int (Int32.ofNat n) :: r) h else none
    | _ => none
  | .iaload => s1i st fun i r => s1r r fun a r => match irow iv G h a 0 with
    | some (n, f) => if vin i n && isI (f i.toNatClampNeg) then okk nx ls (f i.toNatClampNeg :: r) h else none
    | none => none
  | .baload => s1i st fun i r => s1r r fun a r => match irow iv G h a x with
    | some (n, f) => if vin i n && isI (f i.toNatClampNeg) then okk nx ls (f i.toNatClampNeg :: r) h else none
    | none => none
  | .aaload => s1i st fun i r => s1r r fun a r => match mget h a with
    | some (.inl (ti, n, .inr f)) => if vin i n && (decide (3 ≤ ti) && decide (ti < 8)) then okk nx ls (va_rf (rdQ f i.toNatClampNeg) :: r) h else none
    | _ => none
  | .iastore => s1n st fun v r => s1i r fun i r => s1r r fun a r => match mget h a with
    | some (.inl (ti, n, .inl f)) => if ti = 0 && vin i n then okk nx ls r (mput h a (.inl (ti, n, .inl ((i.toNatClampNeg, v) :: f)))) else none
    | _ => none
  | .bastore => s1i st fun v r => s1i r fun i r => s1r r fun a r => match mget h a with
    | some (.inl (ti, n, .inl f)) => if ti = x && vin i n then (if x = 1 then okk nx ls r (mput h a (.inl (ti, n, .inl ((i.toNatClampNeg, .int (vp_nar .byte v)) :: f))))
        else if x = 2 then okk nx ls r (mput h a (.inl (ti, n, .inl ((i.toNatClampNeg, .int (vp_nar .boolean v)) :: f)))) else none) else none
    | _ => none
  | .aastore => s1 st fun v r => s1i r fun i r => s1r r fun a r => match mget h a with
    | some (.inl (ti, n, .inr f)) => if vin i n && decide (ti = x) then (match v with
      | .null => okk nx ls r (mput h a (.inl (ti, n, .inr ((i.toNatClampNeg, none) :: f))))
      | .ref b => (match mget h b with
        | some (.inr (ci, _)) => if ci = y then okk nx ls r (mput h a (.inl (ti, n, .inr ((i.toNatClampNeg, some b) :: f)))) else none
        | _ => none)
      | _ => none) else none
    | _ => none
  | .newarray _ => s1i st fun n r => if decide (0 ≤ n) && decide (n.toNatClampNeg ≤ 67108864) then some (.inl (nx, ls, .ref h.1 :: r, mpush h (.inl (x, n.toNatClampNeg, .inl [])), 1, n.toNatClampNeg)) else none
  | .anewarray _ => s1i st fun n r => if decide (0 ≤ n) && decide (n.toNatClampNeg ≤ 67108864) then some (.inl (nx, ls, .ref h.1 :: r, mpush h (.inl (x, n.toNatClampNeg, .inr [])), 1, n.toNatClampNeg)) else none
  | .new _ => some (.inl (nx, ls, .ref h.1 :: st, mpush h (.inr (x, G.2.2.2.1 x)), 1, (G.2.2.2.1 x).length))
  | .invokespecial _ => if x = 0 then (s1r st fun _ r => if mwid r ≤ 8 then okk nx ls r h else none) else
      (match st.drop y with
      | .ref b :: r => some (.inr (.inl (x, .ref b :: (st.take y).reverse, r, nx)))
      | _ => none)
  | .invokevirtual _ => if x = 9001 then (s1i st fun i r => s1r r fun a r => if 8 ≤ a ∧ a < 8 + NS0 then (match G.2.2.1 a with
      | some (n, f) => if vin i n && decide (mwid r ≤ 8) then okk nx ls (.int (f i.toNatClampNeg) :: r) h else none
      | none => none) else none)
    else if x = 9002 then (s1r st fun a r => if 8 ≤ a ∧ a < 8 + NS0 then (match G.2.2.1 a with
      | some (n, _) => if mwid r ≤ 8 then okk nx ls (.int (Int32.ofNat n) :: r) h else none
      | none => none) else none)
    else match st.drop y with
      | .ref b :: r => (match mget h b with
        | some (.inr (ci, _)) => if ci = G.2.2.2.2.2.2 x then some (.inr (.inl (x, .ref b :: (st.take y).reverse, r, nx))) else none
        | _ => none)
      | _ => none
  | .invokestatic _ => if x = 9000 then (s2i st fun a b r => if mwid r ≤ 8 then okk nx ls (.int (if b < a then b else a) :: r) h else none) else if y ≤ st.length then some (.inr (.inl (x, (st.take y).reverse, st.drop y, nx))) else none
  | .ireturn => match st with
    | [v] => if isI v && (match G.2.2.2.2.2.1 M with
      | some ty => fitB ty v
      | none => false) then some (.inr (.inr (.inl (some v)))) else none
    | _ => none
  | .lreturn => match st with
    | [v] => if isL v && decide (G.2.2.2.2.2.1 M = some .long) then some (.inr (.inr (.inl (some v)))) else none
    | _ => none
  | .areturn => match st with
    | [v] => if isR v && (match G.2.2.2.2.2.1 M with
      | some (.object _) => true
      | _ => false) then some (.inr (.inr (.inl (some v)))) else none
    | _ => none
  | .return_ => if decide (G.2.2.2.2.2.1 M = none) && st.isEmpty then some (.inr (.inr (.inl none))) else none
  | _ => none
def mstep (iv : List (Int × Int)) (G : GI) (M pc : Nat) (ls : ML) (st : List Value) (h : MH) : Option ST := match G.1 M pc with
  | some (i, nx, x, y) => stepI iv G M pc i nx x y ls st h
  | none => none
/-- the locals at a method's entry -/
def ment (i : Nat) (vs : List Value) : ML := match vs with
  | [] => []
  | v :: r => (i, v) :: ment (i + v.category) r
/-- a method's run: fuel, depth of calls left, the method, where, locals, stack, heap, cells and slots made -/
noncomputable def mrun (iv : List (Int × Int)) (G : GI) (f : Nat) : Nat → Nat → Nat → ML → List Value → MH → Nat → Nat → Option (Option Value × MH × Nat × Nat) :=
  Nat.rec (fun _ _ _ _ _ _ _ _ => none) (fun _ ih d M pc ls st h k n => match mstep iv G M pc ls st h with
    | none => none
    | some (.inl (pc', ls', st', h', dk, dn)) => ih d M pc' ls' st' h' (k + dk) (n + dn)
    | some (.inr (.inl (y, as, r, pc'))) => if mwid r ≤ 8 && (decide (mwid as ≤ G.2.1 y) && decide (G.2.1 y ≤ 21)) then (match d with
      | 0 => none
      | d' + 1 => match ih d' y 0 (ment 0 as) [] h 0 0 with
        | some (v, h', k', n') => ih d M pc' ls (v.toList ++ r) h' (k + k') (n + n')
        | none => none) else none
    | some (.inr (.inr (.inl v))) => some (v, h, k, n)
    | some (.inr (.inr (.inr (alts, ls', st')))) => match alts.find? (fun q => ent iv q.1) with
      | some (_, pc') => ih d M pc' ls' st' h k n
      | none => none) f
theorem mrun_0 (iv : List (Int × Int)) (G : GI) (d M pc : Nat) (ls : ML) (st : List Value) (h : MH) (k n : Nat) : mrun iv G 0 d M pc ls st h k n = none := rfl
theorem mrun_s (iv : List (Int × Int)) (G : GI) (f d M pc : Nat) (ls : ML) (st : List Value) (h : MH) (k n : Nat) : mrun iv G (f + 1) d M pc ls st h k n = (match mstep iv G M pc ls st h with
    | none => none
    | some (.inl (pc', ls', st', h', dk, dn)) => mrun iv G f d M pc' ls' st' h' (k + dk) (n + dn)
    | some (.inr (.inl (y, as, r, pc'))) => if mwid r ≤ 8 && (decide (mwid as ≤ G.2.1 y) && decide (G.2.1 y ≤ 21)) then (match d with
      | 0 => none
      | d' + 1 => match mrun iv G f d' y 0 (ment 0 as) [] h 0 0 with
        | some (v, h', k', n') => mrun iv G f d M pc' ls (v.toList ++ r) h' (k + k') (n + n')
        | none => none) else none
    | some (.inr (.inr (.inl v))) => some (v, h, k, n)
    | some (.inr (.inr (.inr (alts, ls', st')))) => match alts.find? (fun q => ent iv q.1) with
      | some (_, pc') => mrun iv G f d M pc' ls' st' h k n
      | none => none) := rfl
