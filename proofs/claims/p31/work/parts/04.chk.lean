/-! The tables of the small machine agree with the claim's bytes and words: a program's check, and that it suffices. -/
def chkT (f : Nat → EN → Bool) (t : List (List EN)) : Bool := (List.range t.length).all fun a => match t[a]? with
  | some r => (List.range r.length).all (fun b => match r[b]? with
    | some w => f (16 * a + b) w
    | none => true)
  | none => true
theorem chkT_at {f : Nat → EN → Bool} {t : List (List EN)} (h : chkT f t = true) {pc : Nat} {w : EN} (hw : l2 t pc = some w) : f pc w = true := by
  unfold l2 at hw
  cases hr : t[pc / 16]? with
  | none => rw [hr] at hw; cases hw
  | some r =>
    rw [hr] at hw
    have hw : r[pc % 16]? = some w := hw
    have h1 := List.all_eq_true.mp h (pc / 16) (List.mem_range.mpr (List.getElem?_eq_some_iff.mp hr).1)
    rw [hr] at h1
    have h2 := List.all_eq_true.mp h1 (pc % 16) (List.mem_range.mpr (List.getElem?_eq_some_iff.mp hw).1)
    rw [hw] at h2
    rwa [Nat.div_add_mod] at h2
def chkTs (f : Nat → EN → Bool) (t : List (List EN)) (a0 k : Nat) : Bool := (List.range k).all fun a => match t[a0 + a]? with
  | some r => (List.range r.length).all (fun b => match r[b]? with
    | some w => f (16 * (a0 + a) + b) w
    | none => true)
  | none => true
theorem chkTs_at {f : Nat → EN → Bool} {t : List (List EN)} {a0 k : Nat} (h : chkTs f t a0 k = true) (a : Nat) (h1 : a0 ≤ a) (h2 : a < a0 + k) : (match t[a]? with
  | some r => (List.range r.length).all (fun b => match r[b]? with
    | some w => f (16 * a + b) w
    | none => true)
  | none => true) = true := by
  have h3 := List.all_eq_true.mp h (a - a0) (List.mem_range.mpr (by omega))
  rwa [show a0 + (a - a0) = a by omega] at h3
theorem chkT_of {f : Nat → EN → Bool} {t : List (List EN)} {n : Nat} (hn : t.length = n) (h : ∀ a, a < n → (match t[a]? with
  | some r => (List.range r.length).all (fun b => match r[b]? with
    | some w => f (16 * a + b) w
    | none => true)
  | none => true) = true) : chkT f t = true := List.all_eq_true.mpr fun a ha => h a (by rw [← hn]; exact List.mem_range.mp ha)
def isSw (i : Instr) : Bool := match i with
  | .tableswitch _ _ _ _ => true
  | _ => false
def chkD (bs : ByteArray) (pc : Nat) (w : EN) : Bool := match decode bs pc with
  | .ok (j, n) => decide (j = w.1) && (isSw w.1 || (decide (n = ilen w.1) && decide (w.2.1 = pc + ilen w.1)))
  | _ => false
def hcl (x : Nat) : (Nat × Nat) × (Nat × Nat) × (Nat × Nat) × (Nat × Nat) := (l2 hcs x).getD ((99, 0), (99, 0), (99, 0), (99, 0))
def cfB (x y : Nat) : Bool := wat (hcl x).1 (.code (YB0 x).1 (YB0 x).2 ((l2 nls x).getD 0) ((l2 rts x).getD none)) && (wat (hcl x).2.1 (.initialized (YB0 x).1.cls) && (plainName (YB0 x).1.cls && (decide ((YB0 x).1.cls ≠ "java/lang/invoke/MethodHandle") && (decide ((YB0 x).1.cls ≠ "java/lang/invoke/VarHandle") && decide ((parseMethodDescriptor (YB0 x).1.desc).map (fun d => d.parameters.length) = some y)))))
def isNestTo (own : String) (idx : Nat) (y : MethodName) (w : Cond) : Bool := match w with
  | .methodLinkNest a i x _ => decide (a = own) && (decide (i = idx) && decide (x = y))
  | _ => false
def mlB (ci : Nat) (own : String) (idx : Nat) (y : MethodName) : Bool := wat (hlk ci idx) (.methodLink own idx y) || NW0.any (isNestTo own idx y)
def chkX (M pc : Nat) (i : Instr) (x y : Nat) : Bool :=
  let own := (YB0 M).1.cls
  let ci := (l2 mcls M).getD 0
  match i with
  | .goto off | .ifnull off | .ifnonnull off | .ifCond _ off | .if_icmp _ off | .if_acmp _ off => decide ((pc : Int) + off = (x : Int))
  | .tableswitch d lo hi offs => decide (0 ≤ (pc : Int) + d) && (offs.toList.all (fun o => decide (0 ≤ (pc : Int) + o)) && decide (lo + offs.toList.length ≤ hi + 1))
  | .ldc idx => (decide (y = 0) && wat (hlk ci idx) (.constant own idx (Int32.ofNat x))) || (decide (y = 1) && (decide (x < 64) && SS0.any (fun q => decide (q.1 = own) && (decide (q.2.1 = idx) && decide (q.2.2.2 = x)))))
  | .ldc_w idx => (decide (y = 0) && wat (hlk ci idx) (.constant own idx (Int32.ofNat x))) || (decide (y = 1) && (decide (x < 64) && SS0.any (fun q => decide (q.1 = own) && (decide (q.2.1 = idx) && decide (q.2.2.2 = x)))))
  | .ldc2_w idx => wat (hlk ci idx) (.constantLong own idx (Int64.ofNat x))
  | .getfield idx => match cl0[x]? with
    | some (C, T, N) => decide (y < N) && wat (hlk ci idx) (.fieldLink own idx C (T y).2.1 (T y).2.2.1)
    | none => false
  | .putfield idx => match cl0[x]? with
    | some (C, T, N) => decide (y < N) && (wat (hlk ci idx) (.fieldLink own idx C (T y).2.1 (T y).2.2.1) && (decide ((T y).2.2.2 = false) || (decide ((YB0 M).1.name = "<init>") && decide (C = own))))
    | none => false
  | .getstatic idx => decide (x = 1) && (wat (hlk ci idx) (.fieldLink own idx "HoleDesk" "PARTS" "[I") || NW0.any (fun w => decide (w = .fieldLinkNest own idx "HoleDesk" "PARTS" "[I" "HoleDesk")))
  | .baload | .bastore => decide (x = 1) || decide (x = 2)
  | .aastore => match cl0[y]?, tyL0[x]? with
    | some (C, _, _), some t => decide (t = .object C)
    | _, _ => false
  | .newarray a => (decide (a = .int) && decide (x = 0)) || ((decide (a = .byte) && decide (x = 1)) || (decide (a = .boolean) && decide (x = 2)))
  | .anewarray idx => match tyL0[x]? with
    | some (.object C) => wat (hlk ci idx) (.classLink own idx C) && NW0.any (fun w => decide (w = .arrayOver (.object C)))
    | _ => false
  | .new idx => match cl0[x]? with
    | some (C, _, _) => wat (hlk ci idx) (.classLink own idx C)
    | none => false
  | .invokespecial idx => (decide (x = 0) && wat (hlk ci idx) (.methodLink own idx Lib.objectInit)) || (!decide (x = 0) && (cfB x y && (mlB ci own idx (YB0 x).1 && (wat (hcl x).2.2.1 (.instanceMethod (YB0 x).1) && (decide ((YB0 x).1.name = "<init>") && decide ((l2 rts x).getD none = none))))))
  | .invokestatic idx => (decide (x = 9000) && wat (hlk ci idx) (.methodLink own idx Lib.Math.min.name)) || (!decide (x = 9000) && (cfB x y && (mlB ci own idx (YB0 x).1 && wat (hcl x).2.2.1 (.static (YB0 x).1))))
  | .invokevirtual idx => (decide (x = 9001) && wat (hlk ci idx) (.methodLink own idx yCA)) || ((decide (x = 9002) && wat (hlk ci idx) (.methodLink own idx yLN)) || (!decide (x = 9001) && (!decide (x = 9002) && (cfB x y && (wat (hlk ci idx) (.methodLink own idx (YB0 x).1) && (wat (hcl x).2.2.1 (.instanceMethod (YB0 x).1) && (wat (hcl x).2.2.2 (.selects (YB0 x).1.cls (YB0 x).1 (YB0 x).1) && (match cl0[(l2 mcls x).getD 0]? with
    | some (C, _, _) => decide (C = (YB0 x).1.cls)
    | none => false))))))))
  | _ => true
def chkE (M pc : Nat) (w : EN) : Bool := decide (ikd w.1 = 4) || (chkD (YB0 M).2 pc w && chkX M pc w.1 w.2.2.1 w.2.2.2)
