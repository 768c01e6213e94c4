/-! Values as trees; working as a function. An env: .mul, what the letters so far are, what this one is (.null: nothing). -/
/-- an env of n letters -/
def isE : Nat → Term → Prop
  | 0, .null => True
  | n + 1, .mul r _ => isE n r
  | _, _ => False
def mlen : Term → Nat
  | .mul r _ => mlen r + 1
  | _ => 0
def lkE : Term → Int → Term
  | .mul r y, x => if (mlen r : Int) = x then y else lkE r x
  | _, _ => .null
def upE : Term → Int → Term → Term
  | .mul r y, x, v => if (mlen r : Int) = x then .mul r v else .mul (upE r x v) y
  | t, _, _ => t
def nulE : Nat → Term
  | 0 => .null
  | n + 1 => .mul (nulE n) .null
/-- a value: a whole, a truth, a DEF, a pair, what is LEFT: of a hole, a name, in a frame, of an act -/
def isV : Term → Bool
  | .int _ => true
  | .arg _ => true
  | .sub (.index _) _ => true
  | .add _ _ => true
  | .div (.index _) _ => true
  | .index _ => true
  | .length _ => true
  | .rem (.index _) (.elem _ (.elem _ _)) => true
  | _ => false
def isW : Term → Bool
  | .div _ _ => true
  | .index _ => true
  | .length _ => true
  | .rem _ _ => true
  | _ => false
/-- something is LEFT in it -/
def hsL : Term → Bool
  | .add a b => hsL a || hsL b
  | .div _ _ => true
  | .index _ => true
  | .length _ => true
  | .rem _ _ => true
  | _ => false
/-- steps, why it stopped (0: it did not), where, what came -/
abbrev RS : Type := Int × Int × Int × Term
abbrev EW : Type := Int → Term → Int → RS
abbrev EO : Type := Term → Int → RS
def rok (st : Int) (v : Term) : RS := (st, 0, -9, v)
def rst (st how b : Int) : RS := (st, how, b, .null)
def bnR (r : RS) (f : Int → Term → RS) : RS := if r.2.1 = 0 then f r.1 r.2.2.2 else r
/-- two wholes -/
def wh2 (k : Int) (m n : Int) : Int := w32 (if k = 4 then m + n else if k = 5 then m * n else m.tdiv n)
def rckE (k b : Int) (x y : Term) (st : Int) : RS := if isW x || isW y then rok st (.rem (.index b.toNat) (.elem x (.elem y .null))) else match x, y with
  | .int m, .int n => if k = 7 then rok st (.arg (if m.toInt < n.toInt then 1 else 0)) else if k = 6 ∧ n.toInt = 0 then rst st 2 b else rok st (.int (Int32.ofInt (wh2 k m.toInt n.toInt)))
  | _, _ => rst st 3 b
def lftE (b : Int) (x y E : Term) (st : Int) : RS := if isW x then rok st (.rem (.index b.toNat) (.elem x (.elem y E))) else rst st 3 b
def useE (nu pa : Int → Int) (w : EW) (b : Int) (x y : Term) (st : Int) : RS := match x with
  | .sub (.index d) E => w (pa (3 * d)) (upE E (nu d) y) st
  | _ => lftE b x y .null st
def pckE (pa : Int → Int) (w : EW) (b : Int) (x E : Term) (st : Int) : RS := match x with
  | .arg n => w (pa (3 * b + if n = 1 then 1 else 2)) E st
  | _ => lftE b x .null E st
def hlfE (k b : Int) (x : Term) (st : Int) : RS := match x with
  | .add p q => rok st (if k = 13 then p else q)
  | _ => lftE b x .null .null st
def actE (so nu pa : Int → Int) (w : EW) (b : Int) (x y E : Term) (st : Int) : RS :=
  if so b = 4 ∨ so b = 5 ∨ so b = 6 ∨ so b = 7 then rckE (so b) b x y st
  else if so b = 9 then useE nu pa w b x y st
  else if so b = 11 then pckE pa w b x E st
  else if so b = 12 then rok st (.add x y)
  else hlfE (so b) b x st
def wplE (so nu pa rs : Int → Int) (w : EW) (b : Int) (E : Term) (st : Int) : RS :=
  if so b = 0 then rok st (.div (.index b.toNat) E)
  else if so b = 1 then rok st (.int (Int32.ofInt (nu b)))
  else if so b = 2 then rok st (.arg (nu b).toNat)
  else if so b = 3 then rok st (if rs b = 1 then .index (nu b).toNat else lkE E (nu b))
  else if so b = 8 then rok st (.sub (.index b.toNat) E)
  else if so b = 15 then w (pa (3 * b)) E st
  else if so b = 10 then bnR (w (pa (3 * b)) E st) (fun st x => w (pa (3 * b + 1)) (upE E (nu b) x) st)
  else bnR (w (pa (3 * b)) E st) (fun st x => if pO (so b) = 2 then bnR (w (pa (3 * b + 1)) E st) (fun st y => actE so nu pa w b x y E st) else actE so nu pa w b x .null E st)
def frmE (rs : Int → Int) (b : Int) (r : RS) : RS := if 1 < rs b then bnR r (fun st x => rok st (.length x)) else r
/-- where there may be nothing -/
def optE (f : Term → RS) (st : Int) : Term → RS
  | .null => rok st .null
  | v => f v
theorem optE_n {f : Term → RS} {st : Int} : optE f st .null = rok st .null := rfl
theorem optE_v {f : Term → RS} {st : Int} {v : Term} (h : v ≠ .null) : optE f st v = f v := by
  cases v <;> first | rfl | exact absurd rfl h
/-- what is seen is gone on with, by letters -/
def envE (o : EO) : Term → Int → RS
  | .mul r x, st => bnR (envE o r st) (fun st R => bnR (optE (fun x => o x st) st x) (fun st y => rok st (.mul R y)))
  | _, st => rok st .null
/-- what fills a hole now -/
def fllN (fb : Int → Int) : Nat → Int → Int
  | 0, b => b
  | n + 1, b => if 0 < fb b then fllN fb n (fb b - 1) else b
def fllF (fb : Int → Int) (b : Int) : Int := fllN fb 3004 b
def oacE (so nu pa : Int → Int) (w : EW) (o : EO) (b : Int) (A B E : Term) (st : Int) : RS :=
  bnR (o A st) (fun st x => bnR (optE (fun B => o B st) st B) (fun st y => bnR (optE (fun E => envE o E st) st E) (fun st F => actE so nu pa w b x y F st)))
def oplE (so nu pa fb : Int → Int) (w : EW) (o : EO) : Term → Int → RS
  | .sub d E, st => bnR (envE o E st) (fun st F => rok st (.sub d F))
  | .add A B, st => bnR (o A st) (fun st x => bnR (o B st) (fun st y => rok st (.add x y)))
  | .div (.index b) E, st => bnR (envE o E st) (fun st F => if fllF fb b = b then rok st (.div (.index b) F) else w (fllF fb b) F st)
  | .length A, st => bnR (o A st) (fun st x => rok st (.length x))
  | .rem (.index b) (.elem A (.elem B E)), st => oacE so nu pa w o b A B E st
  | v, st => rok st v
/-- working a node, going on with a value, as many levels may still be begun -/
def evw (so nu pa rs fb : Int → Int) (most : Int) : Nat → EW × EO
  | 0 => (fun b _ st => rst st 4 b, fun _ st => rst st 4 (-9))
  | n + 1 => (fun b E st => if st = most then rst st 4 b else frmE rs b (wplE so nu pa rs (evw so nu pa rs fb most n).1 b E (st + 1)), fun v st => if st = most then rst st 4 (-9) else oplE so nu pa fb (evw so nu pa rs fb most n).1 (evw so nu pa rs fb most n).2 v (st + 1))
theorem isE_len : ∀ (n : Nat) (E : Term), isE n E → mlen E = n := by
  intro n
  induction n with
  | zero => intro E h; cases E <;> first | rfl | exact h.elim
  | succ n ih =>
    intro E h
    cases E with
    | mul r y => show mlen r + 1 = n + 1; rw [ih r h]
    | _ => exact h.elim
theorem upE_is : ∀ (n : Nat) (E : Term) (x : Int) (v : Term), isE n E → isE n (upE E x v) := by
  intro n
  induction n with
  | zero => intro E x v h; cases E <;> first | exact h | exact h.elim
  | succ n ih =>
    intro E x v h
    cases E with
    | mul r y =>
      unfold upE
      split
      · exact h
      · exact ih r x v h
    | _ => exact h.elim
theorem lkE_up : ∀ (n : Nat) (E : Term) (x : Int) (v : Term) (z : Int), isE n E → 0 ≤ x → x < n → lkE (upE E x v) z = if z = x then v else lkE E z := by
  intro n
  induction n with
  | zero => intro E x v z h h0 h1; omega
  | succ n ih =>
    intro E x v z h h0 h1
    cases E with
    | mul r y =>
      have hr : isE n r := h
      have hl := isE_len n r hr
      unfold upE
      by_cases e : (mlen r : Int) = x
      · rw [if_pos e]
        show (if (mlen r : Int) = z then v else lkE r z) = if z = x then v else if (mlen r : Int) = z then y else lkE r z
        by_cases e2 : z = x
        · rw [if_pos (by omega), if_pos e2]
        · rw [if_neg (by omega), if_neg e2, if_neg (by omega)]
      · rw [if_neg e]
        show (if (mlen (upE r x v) : Int) = z then y else lkE (upE r x v) z) = if z = x then v else if (mlen r : Int) = z then y else lkE r z
        rw [isE_len n _ (upE_is n r x v hr), ih r x v z hr h0 (by omega)]
        by_cases e2 : z = x
        · rw [if_neg (by omega), if_pos e2, if_pos e2]
        · rw [if_neg e2, if_neg e2, hl]
    | _ => exact h.elim
theorem nulE_is : ∀ n : Nat, isE n (nulE n) := by
  intro n
  induction n with
  | zero => trivial
  | succ n ih => exact ih
theorem nulE_lk : ∀ (n : Nat) (x : Int), lkE (nulE n) x = .null := by
  intro n
  induction n with
  | zero => intro x; rfl
  | succ n ih =>
    intro x
    show (if (mlen (nulE n) : Int) = x then Term.null else lkE (nulE n) x) = .null
    split
    · rfl
    · exact ih x
theorem lkE_out : ∀ (n : Nat) (E : Term) (x : Int), isE n E → x < 0 ∨ (n : Int) ≤ x → lkE E x = .null := by
  intro n
  induction n with
  | zero => intro E x h _; cases E <;> first | rfl | exact h.elim
  | succ n ih =>
    intro E x h hx
    cases E with
    | mul r y =>
      have hl := isE_len n r h
      show (if (mlen r : Int) = x then y else lkE r x) = .null
      rw [if_neg (by omega)]
      exact ih r x h (by omega)
    | _ => exact h.elim
