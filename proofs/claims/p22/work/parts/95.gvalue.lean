section
/-! Values as trees; working as a function. An env: .mul, what the letters so far are, what this one is (.null: nothing). -/
/-- an env of n letters -/
def isE : Nat → Term → Prop
  | 0, .null => True
  | n + 1, .mul r _ => isE n r
  | _, _ => False
def mlen : Term → Nat
  | .mul r _ => mlen r + 1
  | _ => 0
def lkE : Term → Int → Term
  | .mul r y, x => if (mlen r : Int) = x then y else lkE r x
  | _, _ => .null
def upE : Term → Int → Term → Term
  | .mul r y, x, v => if (mlen r : Int) = x then .mul r v else .mul (upE r x v) y
  | t, _, _ => t
def nulE : Nat → Term
  | 0 => .null
  | n + 1 => .mul (nulE n) .null
/-- a value: a whole, a truth, a DEF, a pair, what is LEFT: of a hole, a name, in a frame, of an act -/
def isV : Term → Bool
  | .int _ => true
  | .arg _ => true
  | .sub (.index _) _ => true
  | .add _ _ => true
  | .div (.index _) _ => true
  | .index _ => true
  | .length _ => true
  | .rem (.index _) (.elem _ (.elem _ _)) => true
  | _ => false
def isW : Term → Bool
  | .div _ _ => true
  | .index _ => true
  | .length _ => true
  | .rem _ _ => true
  | _ => false
/-- something is LEFT in it -/
def hsL : Term → Bool
  | .add a b => hsL a || hsL b
  | .div _ _ => true
  | .index _ => true
  | .length _ => true
  | .rem _ _ => true
  | _ => false
/-- steps, why it stopped (0: it did not), where, what came -/
abbrev RS : Type := Int × Int × Int × Term
abbrev EW : Type := Int → Term → Int → RS
abbrev EO : Type := Term → Int → RS
def rok (st : Int) (v : Term) : RS := (st, 0, -9, v)
def rst (st how b : Int) : RS := (st, how, b, .null)
def bnR (r : RS) (f : Int → Term → RS) : RS := if r.2.1 = 0 then f r.1 r.2.2.2 else r
/-- two wholes -/
def wh2 (k : Int) (m n : Int) : Int := w32 (if k = 4 then m + n else if k = 5 then m * n else m.tdiv n)
def rckE (k b : Int) (x y : Term) (st : Int) : RS := if isW x || isW y then rok st (.rem (.index b.toNat) (.elem x (.elem y .null))) else match x, y with
  | .int m, .int n => if k = 7 then rok st (.arg (if m.toInt < n.toInt then 1 else 0)) else if k = 6 ∧ n.toInt = 0 then rst st 2 b else rok st (.int (Int32.ofInt (wh2 k m.toInt n.toInt)))
  | _, _ => rst st 3 b
def lftE (b : Int) (x y E : Term) (st : Int) : RS := if isW x then rok st (.rem (.index b.toNat) (.elem x (.elem y E))) else rst st 3 b
def useE (nu pa : Int → Int) (w : EW) (b : Int) (x y : Term) (st : Int) : RS := match x with
  | .sub (.index d) E => w (pa (3 * d)) (upE E (nu d) y) st
  | _ => lftE b x y .null st
def pckE (pa : Int → Int) (w : EW) (b : Int) (x E : Term) (st : Int) : RS := match x with
  | .arg n => w (pa (3 * b + if n = 1 then 1 else 2)) E st
  | _ => lftE b x .null E st
def hlfE (k b : Int) (x : Term) (st : Int) : RS := match x with
  | .add p q => rok st (if k = 13 then p else q)
  | _ => lftE b x .null .null st
def actE (so nu pa : Int → Int) (w : EW) (b : Int) (x y E : Term) (st : Int) : RS :=
  if so b = 4 ∨ so b = 5 ∨ so b = 6 ∨ so b = 7 then rckE (so b) b x y st
  else if so b = 9 then useE nu pa w b x y st
  else if so b = 11 then pckE pa w b x E st
  else if so b = 12 then rok st (.add x y)
  else hlfE (so b) b x st
def wplE (so nu pa rs : Int → Int) (w : EW) (b : Int) (E : Term) (st : Int) : RS :=
  if so b = 0 then rok st (.div (.index b.toNat) E)
  else if so b = 1 then rok st (.int (Int32.ofInt (nu b)))
  else if so b = 2 then rok st (.arg (nu b).toNat)
  else if so b = 3 then rok st (if rs b = 1 then .index (nu b).toNat else lkE E (nu b))
  else if so b = 8 then rok st (.sub (.index b.toNat) E)
  else if so b = 15 then w (pa (3 * b)) E st
  else if so b = 10 then bnR (w (pa (3 * b)) E st) (fun st x => w (pa (3 * b + 1)) (upE E (nu b) x) st)
  else bnR (w (pa (3 * b)) E st) (fun st x => if pO (so b) = 2 then bnR (w (pa (3 * b + 1)) E st) (fun st y => actE so nu pa w b x y E st) else actE so nu pa w b x .null E st)
def frmE (rs : Int → Int) (b : Int) (r : RS) : RS := if 1 < rs b then bnR r (fun st x => rok st (.length x)) else r
/-- where there may be nothing -/
def optE (f : Term → RS) (st : Int) : Term → RS
  | .null => rok st .null
  | v => f v
theorem optE_n {f : Term → RS} {st : Int} : optE f st .null = rok st .null := rfl
theorem optE_v {f : Term → RS} {st : Int} {v : Term} (h : v ≠ .null) : optE f st v = f v := by
  cases v <;> first | rfl | exact absurd rfl h
/-- what is seen is gone on with, by letters -/
def envE (o : EO) : Term → Int → RS
  | .mul r x, st => bnR (envE o r st) (fun st R => bnR (optE (fun x => o x st) st x) (fun st y => rok st (.mul R y)))
  | _, st => rok st .null
/-- what fills a hole now -/
def fllN (fb : Int → Int) : Nat → Int → Int
  | 0, b => b
  | n + 1, b => if 0 < fb b then fllN fb n (fb b - 1) else b
def fllF (fb : Int → Int) (b : Int) : Int := fllN fb 3004 b
def oacE (so nu pa : Int → Int) (w : EW) (o : EO) (b : Int) (A B E : Term) (st : Int) : RS :=
  bnR (o A st) (fun st x => bnR (optE (fun B => o B st) st B) (fun st y => bnR (optE (fun E => envE o E st) st E) (fun st F => actE so nu pa w b x y F st)))
def oplE (so nu pa fb : Int → Int) (w : EW) (o : EO) : Term → Int → RS
  | .sub d E, st => bnR (envE o E st) (fun st F => rok st (.sub d F))
  | .add A B, st => bnR (o A st) (fun st x => bnR (o B st) (fun st y => rok st (.add x y)))
  | .div (.index b) E, st => bnR (envE o E st) (fun st F => if fllF fb b = b then rok st (.div (.index b) F) else w (fllF fb b) F st)
  | .length A, st => bnR (o A st) (fun st x => rok st (.length x))
  | .rem (.index b) (.elem A (.elem B E)), st => oacE so nu pa w o b A B E st
  | v, st => rok st v
/-- working a node, going on with a value, as many levels may still be begun -/
def evw (so nu pa rs fb : Int → Int) (most : Int) : Nat → EW × EO
  | 0 => (fun b _ st => rst st 4 b, fun _ st => rst st 4 (-9))
  | n + 1 => (fun b E st => if st = most then rst st 4 b else frmE rs b (wplE so nu pa rs (evw so nu pa rs fb most n).1 b E (st + 1)), fun v st => if st = most then rst st 4 (-9) else oplE so nu pa fb (evw so nu pa rs fb most n).1 (evw so nu pa rs fb most n).2 v (st + 1))
theorem isE_len : ∀ (n : Nat) (E : Term), isE n E → mlen E = n := by
  intro n
  induction n with
  | zero => intro E h; cases E <;> first | rfl | exact h.elim
  | succ n ih =>
    intro E h
    cases E with
    | mul r y => show mlen r + 1 = n + 1; rw [ih r h]
    | _ => exact h.elim
theorem upE_is : ∀ (n : Nat) (E : Term) (x : Int) (v : Term), isE n E → isE n (upE E x v) := by
  intro n
  induction n with
  | zero => intro E x v h; cases E <;> first | exact h | exact h.elim
  | succ n ih =>
    intro E x v h
    cases E with
    | mul r y =>
      unfold upE
      split
      · exact h
      · exact ih r x v h
    | _ => exact h.elim
theorem lkE_up : ∀ (n : Nat) (E : Term) (x : Int) (v : Term) (z : Int), isE n E → 0 ≤ x → x < n → lkE (upE E x v) z = if z = x then v else lkE E z := by
  intro n
  induction n with
  | zero => intro E x v z h h0 h1; omega
  | succ n ih =>
    intro E x v z h h0 h1
    cases E with
    | mul r y =>
      have hr : isE n r := h
      have hl := isE_len n r hr
      unfold upE
      by_cases e : (mlen r : Int) = x
      · rw [if_pos e]
        show (if (mlen r : Int) = z then v else lkE r z) = if z = x then v else if (mlen r : Int) = z then y else lkE r z
        by_cases e2 : z = x
        · rw [if_pos (by omega), if_pos e2]
        · rw [if_neg (by omega), if_neg e2, if_neg (by omega)]
      · rw [if_neg e]
        show (if (mlen (upE r x v) : Int) = z then y else lkE (upE r x v) z) = if z = x then v else if (mlen r : Int) = z then y else lkE r z
        rw [isE_len n _ (upE_is n r x v hr), ih r x v z hr h0 (by omega)]
        by_cases e2 : z = x
        · rw [if_neg (by omega), if_pos e2, if_pos e2]
        · rw [if_neg e2, if_neg e2, hl]
    | _ => exact h.elim
theorem nulE_is : ∀ n : Nat, isE n (nulE n) := by
  intro n
  induction n with
  | zero => trivial
  | succ n ih => exact ih
theorem nulE_lk : ∀ (n : Nat) (x : Int), lkE (nulE n) x = .null := by
  intro n
  induction n with
  | zero => intro x; rfl
  | succ n ih =>
    intro x
    show (if (mlen (nulE n) : Int) = x then Term.null else lkE (nulE n) x) = .null
    split
    · rfl
    · exact ih x
theorem lkE_out : ∀ (n : Nat) (E : Term) (x : Int), isE n E → x < 0 ∨ (n : Int) ≤ x → lkE E x = .null := by
  intro n
  induction n with
  | zero => intro E x h _; cases E <;> first | rfl | exact h.elim
  | succ n ih =>
    intro E x h hx
    cases E with
    | mul r y =>
      have hl := isE_len n r h
      show (if (mlen r : Int) = x then y else lkE r x) = .null
      rw [if_neg (by omega)]
      exact ih r x h (by omega)
    | _ => exact h.elim
end
section
/-! What working comes to is whole: its nodes are in the sheet, its envs have what names ask for. -/
def cov (s : SM) (b : Int) (E : Term) : Prop := ∀ x, 0 ≤ x → x < 26 → bds s b x ≠ -9 → lkE E x ≠ .null
/-- what stands where a hole was: itself, if it is in the sheet -/
def tgt (s : SM) (t : Term) (b : Int) : Int := if b ∈ fl t then b else fllF (s.2 42) b
def VG (s : SM) (t : Term) (g : Int → Int) : Term → Prop
  | .int _ => True
  | .arg n => n ≤ 1
  | .index x => x < 26
  | .sub (.index d) E => ((d : Int) ∈ fl t ∧ s.2 9 d = 8) ∧ cov s d E ∧ isE 26 E ∧ VG s t g E
  | .add A B => (isV A = true ∧ VG s t g A) ∧ isV B = true ∧ VG s t g B
  | .div (.index b) E => ((b : Int) < s.1 8 ∧ g b ∈ fl t ∧ (g b = b → s.2 9 b = 0)) ∧ cov s (g b) E ∧ isE 26 E ∧ VG s t g E
  | .length A => isV A = true ∧ VG s t g A
  | .rem (.index n) (.elem A (.elem B E)) => ((n : Int) ∈ fl t ∧ isV A = true ∧ VG s t g A) ∧ (((s.2 9 n = 4 ∨ s.2 9 n = 5 ∨ s.2 9 n = 6 ∨ s.2 9 n = 7 ∨ s.2 9 n = 9) ∧ isV B = true ∧ VG s t g B ∧ E = .null) ∨ (s.2 9 n = 11 ∧ B = .null ∧ isE 26 E ∧ cov s n E ∧ VG s t g E) ∨ ((s.2 9 n = 13 ∨ s.2 9 n = 14) ∧ B = .null ∧ E = .null))
  | .mul r x => VG s t g r ∧ (x = .null ∨ (isV x = true ∧ VG s t g x))
  | .null => True
  | _ => False
/-- what came of working: its holes are in the sheet; what is to be gone on with: what stands for them is -/
abbrev VN (s : SM) (t : Term) : Term → Prop := VG s t (fun b => b)
abbrev VO (s : SM) (t : Term) : Term → Prop := VG s t (tgt s t)
theorem isV_nn {v : Term} (h : isV v = true) : v ≠ .null := fun e => by rw [e] at h; cases h
/-- names that are in no frame for it are bound -/
def RSN (s : SM) (t : Term) : Prop := ∀ y, y ∈ fl t → s.2 9 y = 3 → s.2 21 y ≠ 1 → bds s y (s.2 10 y) ≠ -9
def RO (s : SM) (t : Term) (most st : Int) (r : RS) : Prop := (st ≤ r.1 ∧ r.1 ≤ most) ∧ (r.2.1 = 0 ∨ (2 ≤ r.2.1 ∧ r.2.1 ≤ 4)) ∧ (r.2.1 = 0 → r.2.2.1 = -9 ∧ isV r.2.2.2 = true ∧ VN s t r.2.2.2)
/-- an env with the same letters -/
def RE (s : SM) (t : Term) (most st : Int) (n : Nat) (E : Term) (r : RS) : Prop := (st ≤ r.1 ∧ r.1 ≤ most) ∧ (r.2.1 = 0 ∨ (2 ≤ r.2.1 ∧ r.2.1 ≤ 4)) ∧ (r.2.1 = 0 → r.2.2.1 = -9 ∧ isE n r.2.2.2 ∧ VN s t r.2.2.2 ∧ ∀ x, lkE r.2.2.2 x = .null → lkE E x = .null)
theorem RO_ok {s : SM} {t : Term} {most st : Int} {v : Term} (h : st ≤ most) (h1 : isV v = true) (h2 : VN s t v) : RO s t most st (rok st v) := ⟨⟨Int.le_refl _, h⟩, Or.inl rfl, fun _ => ⟨rfl, h1, h2⟩⟩
theorem RO_st {s : SM} {t : Term} {most st how b : Int} (h : st ≤ most) (h1 : 2 ≤ how ∧ how ≤ 4) : RO s t most st (rst st how b) := ⟨⟨Int.le_refl _, h⟩, Or.inr h1, fun q => by have q : how = 0 := q; omega⟩
theorem RO_bn {s : SM} {t : Term} {most st : Int} {r : RS} {f : Int → Term → RS} (h : RO s t most st r) (hf : ∀ st' v, st ≤ st' → st' ≤ most → isV v = true → VN s t v → RO s t most st' (f st' v)) : RO s t most st (bnR r f) := by
  unfold bnR
  by_cases e : r.2.1 = 0
  · rw [if_pos e]
    obtain ⟨h1, h2, h3⟩ := h
    obtain ⟨h4, h5, h6⟩ := h3 e
    obtain ⟨g1, g2, g3⟩ := hf r.1 r.2.2.2 h1.1 h1.2 h5 h6
    exact ⟨⟨by omega, g1.2⟩, g2, g3⟩
  · rw [if_neg e]; exact h
theorem RE_bn {s : SM} {t : Term} {most st : Int} {n : Nat} {E : Term} {r : RS} {f : Int → Term → RS} (h : RE s t most st n E r) (hf : ∀ st' v, st ≤ st' → st' ≤ most → isE n v → VN s t v → (∀ x, lkE v x = .null → lkE E x = .null) → RO s t most st' (f st' v)) : RO s t most st (bnR r f) := by
  unfold bnR
  obtain ⟨h1, h2, h3⟩ := h
  by_cases e : r.2.1 = 0
  · rw [if_pos e]
    obtain ⟨h4, h5, h6, h7⟩ := h3 e
    obtain ⟨g1, g2, g3⟩ := hf r.1 r.2.2.2 h1.1 h1.2 h5 h6 h7
    exact ⟨⟨by omega, g1.2⟩, g2, g3⟩
  · rw [if_neg e]
    exact ⟨h1, h2, fun q => absurd q e⟩
theorem VN_lk {s : SM} {t : Term} {g : Int → Int} : ∀ (E : Term) (x : Int), VG s t g E → lkE E x ≠ .null → isV (lkE E x) = true ∧ VG s t g (lkE E x) := by
  intro E
  induction E with
  | mul r y ih _ =>
    intro x h hn
    have h : VG s t g r ∧ (y = .null ∨ (isV y = true ∧ VG s t g y)) := h
    unfold lkE at hn ⊢
    by_cases e : (mlen r : Int) = x
    · rw [if_pos e] at hn ⊢
      exact h.2.resolve_left hn
    · rw [if_neg e] at hn ⊢
      exact ih x h.1 hn
  | _ => intro x h hn; exact absurd rfl hn
theorem VN_up {s : SM} {t : Term} : ∀ (E : Term) (x : Int) (v : Term), VN s t E → isV v = true → VN s t v → VN s t (upE E x v) := by
  intro E
  induction E with
  | mul r y ih _ =>
    intro x v h h1 h2
    have h : VN s t r ∧ (y = .null ∨ (isV y = true ∧ VN s t y)) := h
    unfold upE
    by_cases e : (mlen r : Int) = x
    · rw [if_pos e]; exact ⟨h.1, Or.inr ⟨h1, h2⟩⟩
    · rw [if_neg e]; exact ⟨ih x v h.1 h1 h2, h.2⟩
  | _ => intro x v h _ _; exact h
section
variable {s : SM} {t : Term}
/-- what binds letters in a part -/
theorem bds_part (h : SHT s t) {b i : Int} (hb : b ∈ fl t) (hi : 0 ≤ i ∧ i < pO (s.2 9 b)) (x : Int) : s.2 14 (3 * b + i) ∈ fl t ∧ bds s (s.2 14 (3 * b + i)) x = if (s.2 9 b = 8 ∨ (s.2 9 b = 10 ∧ i = 1)) ∧ s.2 10 b = x then b else bds s b x := by
  obtain ⟨c1, c2, c3⟩ := (AT_mem t h.1 b hb).2.2.1 i hi.1 hi.2 (fun q => by have := h.2.1; unfold full at this; rw [this, ← q]; exact hi.2)
  refine ⟨c1, ?_⟩
  have hbl := h.lt hb
  show bnd (s.2 9) (s.2 10) (s.2 12) (s.2 13) (69 + 1) (s.2 14 (3 * b + i)) x = _
  unfold bnd
  rw [c2, c3, if_neg (by omega)]
  by_cases q : (s.2 9 b = 8 ∨ (s.2 9 b = 10 ∧ i = 1)) ∧ s.2 10 b = x
  · rw [if_pos q, if_pos q]
  · rw [if_neg q, if_neg q]
    exact (bnd_f 69 70 b x (by decide) (DP_up 61 69 _ (by decide) (DP_tree h b hb))).symm
theorem cov_part (h : SHT s t) {b i : Int} {E : Term} (hb : b ∈ fl t) (hi : 0 ≤ i ∧ i < pO (s.2 9 b)) (hn : ¬ (s.2 9 b = 8 ∨ (s.2 9 b = 10 ∧ i = 1))) (hc : cov s b E) : s.2 14 (3 * b + i) ∈ fl t ∧ cov s (s.2 14 (3 * b + i)) E := by
  refine ⟨(bds_part h hb hi 0).1, fun x x0 x1 hx => hc x x0 x1 ?_⟩
  rw [(bds_part h hb hi x).2, if_neg (fun q => hn q.1)] at hx
  exact hx
theorem cov_bind (h : SHT s t) (hN : NB s) {b i : Int} {E v : Term} (hb : b ∈ fl t) (hi : 0 ≤ i ∧ i < pO (s.2 9 b)) (hn : s.2 9 b = 8 ∨ (s.2 9 b = 10 ∧ i = 1)) (hE : isE 26 E) (hv : v ≠ .null) (hc : cov s b E) : s.2 14 (3 * b + i) ∈ fl t ∧ cov s (s.2 14 (3 * b + i)) (upE E (s.2 10 b) v) := by
  have hbl := h.lt hb
  have hnb := (hN b hbl.1 hbl.2.1).2.1 (by omega)
  refine ⟨(bds_part h hb hi 0).1, fun x x0 x1 hx => ?_⟩
  rw [lkE_up 26 E _ v x hE hnb.1 hnb.2]
  rw [(bds_part h hb hi x).2] at hx
  by_cases q : x = s.2 10 b
  · rw [if_pos q]; exact hv
  · rw [if_neg q]
    rw [if_neg (fun c => q c.2.symm)] at hx
    exact hc x x0 x1 hx
theorem act_ok (h : SHT s t) (hN : NB s) {most : Int} {w : EW} (hw : ∀ b E st, b ∈ fl t → isE 26 E → VN s t E → cov s b E → st ≤ most → RO s t most st (w b E st)) {b st : Int} {x y E : Term} (hb : b ∈ fl t) (hst : st ≤ most) (hx : isV x = true ∧ VN s t x) (hso : 4 ≤ s.2 9 b ∧ s.2 9 b < 15 ∧ s.2 9 b ≠ 8 ∧ s.2 9 b ≠ 10) (hy : (s.2 9 b = 4 ∨ s.2 9 b = 5 ∨ s.2 9 b = 6 ∨ s.2 9 b = 7 ∨ s.2 9 b = 9 ∨ s.2 9 b = 12) → isV y = true ∧ VN s t y) (hE : s.2 9 b = 11 → isE 26 E ∧ VN s t E ∧ cov s b E) : RO s t most st (actE (s.2 9) (s.2 10) (s.2 14) w b x y E st) := by
  have hbl := h.lt hb
  have eb : ((b.toNat : Nat) : Int) = b := by omega
  have lft : ∀ (y' E' : Term), isW x = true → (((s.2 9 b = 4 ∨ s.2 9 b = 5 ∨ s.2 9 b = 6 ∨ s.2 9 b = 7 ∨ s.2 9 b = 9) ∧ isV y' = true ∧ VN s t y' ∧ E' = .null) ∨ (s.2 9 b = 11 ∧ y' = .null ∧ isE 26 E' ∧ cov s b E' ∧ VN s t E') ∨ ((s.2 9 b = 13 ∨ s.2 9 b = 14) ∧ y' = .null ∧ E' = .null)) → RO s t most st (rok st (.rem (.index b.toNat) (.elem x (.elem y' E')))) := fun y' E' _ q =>
    RO_ok hst rfl ⟨⟨by rw [eb]; exact hb, hx.1, hx.2⟩, by rw [eb]; exact q⟩
  have lf2 : ∀ (y' E' : Term), (((s.2 9 b = 4 ∨ s.2 9 b = 5 ∨ s.2 9 b = 6 ∨ s.2 9 b = 7 ∨ s.2 9 b = 9) ∧ isV y' = true ∧ VN s t y' ∧ E' = .null) ∨ (s.2 9 b = 11 ∧ y' = .null ∧ isE 26 E' ∧ cov s b E' ∧ VN s t E') ∨ ((s.2 9 b = 13 ∨ s.2 9 b = 14) ∧ y' = .null ∧ E' = .null)) → RO s t most st (lftE b x y' E' st) := fun y' E' q => by
    unfold lftE
    by_cases e : isW x = true
    · rw [if_pos e]; exact lft y' E' e q
    · rw [if_neg e]; exact RO_st hst (by decide)
  unfold actE
  by_cases e1 : s.2 9 b = 4 ∨ s.2 9 b = 5 ∨ s.2 9 b = 6 ∨ s.2 9 b = 7
  · rw [if_pos e1]
    obtain ⟨y1, y2⟩ := hy (by omega)
    unfold rckE
    by_cases e : (isW x || isW y) = true
    · rw [if_pos e]
      exact RO_ok hst rfl ⟨⟨by rw [eb]; exact hb, hx.1, hx.2⟩, by rw [eb]; exact Or.inl ⟨by omega, y1, y2, rfl⟩⟩
    · rw [if_neg e]
      split
      · split
        · refine RO_ok hst rfl ?_
          show (if _ then 1 else 0) ≤ 1
          split <;> omega
        · split
          · exact RO_st hst (by decide)
          · exact RO_ok hst rfl trivial
      · exact RO_st hst (by decide)
  · rw [if_neg e1]
    by_cases e2 : s.2 9 b = 9
    · rw [if_pos e2]
      obtain ⟨y1, y2⟩ := hy (by omega)
      have gen : ∀ d E', x = .sub (.index d) E' → RO s t most st (w (s.2 14 (3 * d)) (upE E' (s.2 10 d) y) st) := fun d E' e => by
        subst e
        obtain ⟨⟨d1, d2⟩, d3, d4, d5⟩ := hx.2
        have := cov_bind h hN (i := 0) d1 (by rw [d2]; decide) (Or.inl d2) d4 (isV_nn y1) d3
        rw [show (3 * (d : Int) + 0) = 3 * d by omega] at this
        exact hw _ _ _ this.1 (upE_is 26 _ _ _ d4) (VN_up _ _ _ d5 y1 y2) this.2 hst
      unfold useE
      split
      · rename_i d E' 
        exact gen d E' rfl
      · exact lf2 y .null (Or.inl ⟨by omega, y1, y2, rfl⟩)
    · rw [if_neg e2]
      by_cases e3 : s.2 9 b = 11
      · rw [if_pos e3]
        obtain ⟨h1, h2, h3⟩ := hE e3
        unfold pckE
        split
        · rename_i n
          have hp : pO (s.2 9 b) = 3 := by rw [e3]; rfl
          have := cov_part h (i := if n = 1 then 1 else 2) hb (by rw [hp]; split <;> omega) (by omega) h3
          exact hw _ _ _ this.1 h1 h2 this.2 hst
        · exact lf2 .null E (Or.inr (Or.inl ⟨e3, rfl, h1, h3, h2⟩))
      · rw [if_neg e3]
        by_cases e4 : s.2 9 b = 12
        · rw [if_pos e4]
          obtain ⟨y1, y2⟩ := hy (by omega)
          exact RO_ok hst rfl ⟨hx, y1, y2⟩
        · rw [if_neg e4]
          unfold hlfE
          split
          · rename_i p q
            obtain ⟨⟨p1, p2⟩, q1, q2⟩ := hx.2
            split
            · exact RO_ok hst p1 p2
            · exact RO_ok hst q1 q2
          · exact lf2 .null .null (Or.inr (Or.inr ⟨by omega, rfl, rfl⟩))
theorem work_ok1 (h : SHT s t) (hN : NB s) (hR : RSN s t) {most : Int} {w : EW} (hw : ∀ b E st, b ∈ fl t → isE 26 E → VN s t E → cov s b E → st ≤ most → RO s t most st (w b E st)) {b st : Int} {E : Term} (hb : b ∈ fl t) (hE : isE 26 E) (hV : VN s t E) (hc : cov s b E) (hst : st ≤ most) : RO s t most st (wplE (s.2 9) (s.2 10) (s.2 14) (s.2 21) w b E st) := by
  have hbl := h.lt hb
  have eb : ((b.toNat : Nat) : Int) = b := by omega
  obtain ⟨n1, n2, n3, n4⟩ := hN b hbl.1 hbl.2.1
  have prt : ∀ i, 0 ≤ i → i < pO (s.2 9 b) → ¬ (s.2 9 b = 8 ∨ (s.2 9 b = 10 ∧ i = 1)) → ∀ st', st' ≤ most → RO s t most st' (w (s.2 14 (3 * b + i)) E st') := fun i i0 i1 hn st' hs => by
    have := cov_part h hb ⟨i0, i1⟩ hn hc
    exact hw _ _ _ this.1 hE hV this.2 hs
  have p0 : 0 < pO (s.2 9 b) → ¬ (s.2 9 b = 8) → ∀ st', st' ≤ most → RO s t most st' (w (s.2 14 (3 * b)) E st') := fun i1 hn st' hs => by
    have := prt 0 (Int.le_refl 0) i1 (by omega) st' hs
    rw [Int.add_zero] at this
    exact this
  unfold wplE
  by_cases e0 : s.2 9 b = 0
  · rw [if_pos e0]
    have hd : ((b.toNat : Nat) : Int) ∈ fl t := by rw [eb]; exact hb
    have hd2 : cov s ((b.toNat : Nat) : Int) E := by rw [eb]; exact hc
    exact RO_ok hst rfl ⟨⟨by rw [eb]; exact hbl.2.1, hd, fun _ => by rw [eb]; exact e0⟩, hd2, hE, hV⟩
  rw [if_neg e0]
  by_cases e1 : s.2 9 b = 1
  · rw [if_pos e1]; exact RO_ok hst rfl trivial
  rw [if_neg e1]
  by_cases e2 : s.2 9 b = 2
  · rw [if_pos e2]
    refine RO_ok hst rfl ?_
    show (s.2 10 b).toNat ≤ 1
    have := n3 e2
    omega
  rw [if_neg e2]
  by_cases e3 : s.2 9 b = 3
  · rw [if_pos e3]
    have hnu := n2 (Or.inl e3)
    by_cases e : s.2 21 b = 1
    · rw [if_pos e]
      refine RO_ok hst rfl ?_
      show (s.2 10 b).toNat < 26
      omega
    · rw [if_neg e]
      have := VN_lk E _ hV (hc _ hnu.1 hnu.2 (hR b hb e3 e))
      exact RO_ok hst this.1 this.2
  rw [if_neg e3]
  by_cases e8 : s.2 9 b = 8
  · rw [if_pos e8]
    exact RO_ok hst rfl ⟨⟨by rw [eb]; exact hb, by rw [eb]; exact e8⟩, by rw [eb]; exact hc, hE, hV⟩
  rw [if_neg e8]
  by_cases e15 : s.2 9 b = 15
  · rw [if_pos e15]; exact p0 (by rw [e15]; decide) e8 st hst
  rw [if_neg e15]
  by_cases e10 : s.2 9 b = 10
  · rw [if_pos e10]
    refine RO_bn (p0 (by rw [e10]; decide) e8 st hst) (fun st' v s1 s2 v1 v2 => ?_)
    have := cov_bind h hN (i := 1) hb (by rw [e10]; decide) (Or.inr ⟨e10, rfl⟩) hE (isV_nn v1) hc
    exact hw _ _ _ this.1 (upE_is 26 _ _ _ hE) (VN_up _ _ _ hV v1 v2) this.2 s2
  rw [if_neg e10]
  have hp1 : 0 < pO (s.2 9 b) := by
    rcases (show s.2 9 b = 4 ∨ s.2 9 b = 5 ∨ s.2 9 b = 6 ∨ s.2 9 b = 7 ∨ s.2 9 b = 9 ∨ s.2 9 b = 11 ∨ s.2 9 b = 12 ∨ s.2 9 b = 13 ∨ s.2 9 b = 14 by omega) with e | e | e | e | e | e | e | e | e <;> rw [e] <;> decide
  refine RO_bn (p0 hp1 e8 st hst) (fun st' x s1 s2 x1 x2 => ?_)
  by_cases e : pO (s.2 9 b) = 2
  · rw [if_pos e]
    refine RO_bn (prt 1 (by decide) (by omega) (by omega) st' s2) (fun st'' y s3 s4 y1 y2 => ?_)
    exact act_ok h hN hw hb s4 ⟨x1, x2⟩ (by omega) (fun _ => ⟨y1, y2⟩) (fun _ => ⟨hE, hV, hc⟩)
  · rw [if_neg e]
    refine act_ok h hN hw hb s2 ⟨x1, x2⟩ (by omega) (fun q => ?_) (fun _ => ⟨hE, hV, hc⟩)
    exfalso
    rcases q with q | q | q | q | q | q <;> rw [q] at e <;> exact e rfl
theorem bnR_0 {r : RS} {f : Int → Term → RS} (e : r.2.1 = 0) : bnR r f = f r.1 r.2.2.2 := if_pos e
theorem bnR_n {r : RS} {f : Int → Term → RS} (e : r.2.1 ≠ 0) : bnR r f = r := if_neg e
theorem env_ok {most : Int} {o : EO} (ho : ∀ v st, isV v = true → VO s t v → st ≤ most → RO s t most st (o v st)) : ∀ (n : Nat) (E : Term) (st : Int), isE n E → VO s t E → st ≤ most → RE s t most st n E (envE o E st) := by
  intro n
  induction n with
  | zero =>
    intro E st h hV hst
    cases E with
    | null => exact ⟨⟨Int.le_refl _, hst⟩, Or.inl rfl, fun _ => ⟨rfl, trivial, trivial, fun x _ => rfl⟩⟩
    | _ => exact h.elim
  | succ n ih =>
    intro E st h hV hst
    cases E with
    | mul r x =>
      have hV : VO s t r ∧ (x = .null ∨ (isV x = true ∧ VO s t x)) := hV
      have hr : isE n r := h
      have hl := isE_len n r hr
      obtain ⟨a1, a2, a3⟩ := ih r st hr hV.1 hst
      show RE s t most st (n + 1) (.mul r x) (bnR (envE o r st) (fun st R => bnR (optE (fun x => o x st) st x) (fun st y => rok st (.mul R y))))
      by_cases e : (envE o r st).2.1 = 0
      · rw [bnR_0 e]
        obtain ⟨b1, b2, b3, b4⟩ := a3 e
        have hl2 := isE_len n _ b2
        by_cases hx : x = .null
        · subst hx
          rw [optE_n]
          refine ⟨a1, Or.inl rfl, fun _ => ⟨rfl, b2, ⟨b3, Or.inl rfl⟩, fun z hz => ?_⟩⟩
          show (if (mlen r : Int) = z then Term.null else lkE r z) = .null
          by_cases q2 : (mlen r : Int) = z
          · rw [if_pos q2]
          · rw [if_neg q2]
            refine b4 z ?_
            have hz : (if (mlen (envE o r st).2.2.2 : Int) = z then Term.null else lkE (envE o r st).2.2.2 z) = .null := hz
            rw [if_neg (by omega)] at hz
            exact hz
        · rw [optE_v hx]
          obtain ⟨q1, q2⟩ := hV.2.resolve_left hx
          obtain ⟨c1, c2, c3⟩ := ho x (envE o r st).1 q1 q2 a1.2
          by_cases e2 : (o x (envE o r st).1).2.1 = 0
          · rw [bnR_0 e2]
            obtain ⟨d1, d2, d3⟩ := c3 e2
            refine ⟨⟨by show st ≤ (o x (envE o r st).1).1; omega, c1.2⟩, Or.inl rfl, fun _ => ⟨rfl, b2, ⟨b3, Or.inr ⟨d2, d3⟩⟩, fun z hz => ?_⟩⟩
            have hz : (if (mlen (envE o r st).2.2.2 : Int) = z then (o x (envE o r st).1).2.2.2 else lkE (envE o r st).2.2.2 z) = .null := hz
            show (if (mlen r : Int) = z then x else lkE r z) = .null
            by_cases q3 : (mlen r : Int) = z
            · rw [if_pos (by omega)] at hz
              exact absurd hz (isV_nn d2)
            · rw [if_neg (by omega)] at hz
              rw [if_neg q3]
              exact b4 z hz
          · rw [bnR_n e2]
            exact ⟨⟨by omega, c1.2⟩, c2, fun q => absurd q e2⟩
      · rw [bnR_n e]
        exact ⟨a1, a2, fun q => absurd q e⟩
    | _ => exact h.elim
theorem RO_frm {most st b : Int} {rs : Int → Int} {r : RS} (h : RO s t most st r) : RO s t most st (frmE rs b r) := by
  unfold frmE
  split
  · exact RO_bn h (fun st' v s1 s2 v1 v2 => RO_ok s2 rfl ⟨v1, v2⟩)
  · exact h
/-- nothing in the sheet is filled -/
def FN (s : SM) (t : Term) : Prop := ∀ y, y ∈ fl t → s.2 9 y = 0 → fllF (s.2 42) y = y
theorem tgt_f {b : Int} (hF : FN s t) (h2 : tgt s t b = b → s.2 9 b = 0) (hq : fllF (s.2 42) b ≠ b) : tgt s t b = fllF (s.2 42) b := by
  unfold tgt
  by_cases e : b ∈ fl t
  · exact absurd (hF b e (h2 (if_pos e))) hq
  · exact if_neg e
theorem evw_okw (h : SHT s t) (hN : NB s) (hR : RSN s t) (most : Int) : ∀ n : Nat, (∀ b E st, b ∈ fl t → isE 26 E → VN s t E → cov s b E → st ≤ most → RO s t most st ((evw (s.2 9) (s.2 10) (s.2 14) (s.2 21) (s.2 42) most n).1 b E st)) := by
  intro n
  induction n with
  | zero => exact fun b E st _ _ _ _ hst => RO_st hst (by decide)
  | succ n hw =>
    intro b E st hb hE hV hc hst
    show RO s t most st (if st = most then rst st 4 b else frmE (s.2 21) b (wplE (s.2 9) (s.2 10) (s.2 14) (s.2 21) (evw (s.2 9) (s.2 10) (s.2 14) (s.2 21) (s.2 42) most n).1 b E (st + 1)))
    by_cases e : st = most
    · rw [if_pos e]; exact RO_st hst (by decide)
    · rw [if_neg e]
      obtain ⟨g1, g2, g3⟩ := RO_frm (rs := s.2 21) (b := b) (work_ok1 h hN hR hw hb hE hV hc (show st + 1 ≤ most by omega))
      exact ⟨⟨by omega, g1.2⟩, g2, g3⟩
theorem evw_ok (h : SHT s t) (hN : NB s) (hR : RSN s t) (hF : FN s t) (most : Int) : ∀ n : Nat, (∀ b E st, b ∈ fl t → isE 26 E → VN s t E → cov s b E → st ≤ most → RO s t most st ((evw (s.2 9) (s.2 10) (s.2 14) (s.2 21) (s.2 42) most n).1 b E st)) ∧ (∀ v st, isV v = true → VO s t v → st ≤ most → RO s t most st ((evw (s.2 9) (s.2 10) (s.2 14) (s.2 21) (s.2 42) most n).2 v st)) := by
  intro n
  induction n with
  | zero => exact ⟨fun b E st _ _ _ _ hst => RO_st hst (by decide), fun v st _ _ hst => RO_st hst (by decide)⟩
  | succ n ih =>
    obtain ⟨hw, ho⟩ := ih
    refine ⟨evw_okw h hN hR most (n + 1), fun v st hv hV hst => ?_⟩
    · show RO s t most st (if st = most then rst st 4 (-9) else oplE (s.2 9) (s.2 10) (s.2 14) (s.2 42) (evw (s.2 9) (s.2 10) (s.2 14) (s.2 21) (s.2 42) most n).1 (evw (s.2 9) (s.2 10) (s.2 14) (s.2 21) (s.2 42) most n).2 v (st + 1))
      by_cases e : st = most
      · rw [if_pos e]; exact RO_st hst (by decide)
      · rw [if_neg e]
        have hs1 : st + 1 ≤ most := by omega
        suffices hg : RO s t most (st + 1) (oplE (s.2 9) (s.2 10) (s.2 14) (s.2 42) (evw (s.2 9) (s.2 10) (s.2 14) (s.2 21) (s.2 42) most n).1 (evw (s.2 9) (s.2 10) (s.2 14) (s.2 21) (s.2 42) most n).2 v (st + 1)) by
          obtain ⟨g1, g2, g3⟩ := hg
          exact ⟨⟨by omega, g1.2⟩, g2, g3⟩
        cases v with
        | sub d E =>
          cases d with
          | index d =>
            obtain ⟨d1, d2, d3, d4⟩ := hV
            exact RE_bn (env_ok ho 26 E _ d3 d4 hs1) (fun st' F s1 s2 f1 f2 f3 => RO_ok s2 rfl ⟨d1, fun x x0 x1 hx q => d2 x x0 x1 hx (f3 x q), f1, f2⟩)
          | _ => cases hv
        | add A B =>
          obtain ⟨⟨a1, a2⟩, b1, b2⟩ := hV
          exact RO_bn (ho A _ a1 a2 hs1) (fun st' x s1 s2 x1 x2 => RO_bn (ho B _ b1 b2 s2) (fun st'' y s3 s4 y1 y2 => RO_ok s4 rfl ⟨⟨x1, x2⟩, y1, y2⟩))
        | div b E =>
          cases b with
          | index b =>
            obtain ⟨⟨d0, d1, d2⟩, d3, d4, d5⟩ := hV
            refine RE_bn (env_ok ho 26 E _ d4 d5 hs1) (fun st' F s1 s2 f1 f2 f3 => ?_)
            have hcF : cov s (tgt s t b) F := fun x x0 x1 hx q => d3 x x0 x1 hx (f3 x q)
            by_cases q : fllF (s.2 42) b = b
            · rw [if_pos q]
              have ht : tgt s t b = b := by
                unfold tgt
                split
                · rfl
                · exact q
              rw [ht] at d1 d2 hcF
              exact RO_ok s2 rfl ⟨⟨d0, d1, d2⟩, hcF, f1, f2⟩
            · rw [if_neg q]
              have ht := tgt_f hF d2 q
              rw [ht] at d1 hcF
              exact hw _ _ _ d1 f1 f2 hcF s2
          | _ => cases hv
        | length A =>
          obtain ⟨a1, a2⟩ := hV
          exact RO_bn (ho A _ a1 a2 hs1) (fun st' x s1 s2 x1 x2 => RO_ok s2 rfl ⟨x1, x2⟩)
        | rem b q =>
          cases b with
          | index b =>
            cases q with
            | elem A q =>
              cases q with
              | elem B E =>
                obtain ⟨⟨b1, a1, a2⟩, hcase⟩ := hV
                refine RO_bn (ho A _ a1 a2 hs1) (fun st1 x s1 s2 x1 x2 => ?_)
                rcases hcase with ⟨so, B1, B2, rfl⟩ | ⟨so, rfl, E1, E2, E3⟩ | ⟨so, rfl, rfl⟩
                · rw [optE_v (isV_nn B1)]
                  refine RO_bn (ho B _ B1 B2 s2) (fun st2 y s3 s4 y1 y2 => ?_)
                  rw [optE_n, bnR_0 rfl]
                  exact act_ok h hN hw b1 s4 ⟨x1, x2⟩ (by omega) (fun _ => ⟨y1, y2⟩) (fun q => by omega)
                · rw [optE_n, bnR_0 rfl, optE_v (fun q => by rw [q] at E1; exact E1.elim)]
                  refine RE_bn (env_ok ho 26 E _ E1 E3 s2) (fun st2 F s3 s4 f1 f2 f3 => ?_)
                  exact act_ok h hN hw b1 s4 ⟨x1, x2⟩ (by omega) (fun q => by omega) (fun _ => ⟨f1, f2, fun z z0 z1 hz q => E2 z z0 z1 hz (f3 z q)⟩)
                · rw [optE_n, bnR_0 rfl, optE_n, bnR_0 rfl]
                  exact act_ok h hN hw b1 s2 ⟨x1, x2⟩ (by omega) (fun q => by omega) (fun q => by omega)
              | _ => cases hv
            | _ => cases hv
          | _ => cases hv
        | int n => exact RO_ok hs1 hv hV
        | arg n => exact RO_ok hs1 hv hV
        | index n => exact RO_ok hs1 hv hV
        | _ => cases hv
end
end
section
/-! The reference's rows of values and of what is seen. -/
def cel (s : SM) (lo hi v k n a b e h : Int) : Prop := (lo ≤ v ∧ v < hi) ∧ s.2 46 v = k ∧ s.2 47 v = n ∧ s.2 48 v = a ∧ s.2 49 v = b ∧ s.2 50 v = e ∧ s.2 51 v = h
/-- the row v (of an env: e) holds it -/
def VR (s : SM) (lo hi elo ehi : Int) : Term → Int → Prop
  | .int z, v => cel s lo hi v 0 z.toInt (-9) (-9) (-9) 0
  | .arg n, v => cel s lo hi v 1 n (-9) (-9) (-9) 0
  | .index x, v => cel s lo hi v 5 x (-9) (-9) (-9) 1
  | .sub (.index d) E, v => ∃ e, cel s lo hi v 2 d (-9) (-9) e 0 ∧ VR s lo hi elo ehi E e
  | .add A B, v => ∃ a b, cel s lo hi v 3 (-9) a b (-9) (if (hsL A || hsL B) = true then 1 else 0) ∧ VR s lo hi elo ehi A a ∧ VR s lo hi elo ehi B b
  | .div (.index b) E, v => ∃ e, cel s lo hi v 4 b (-9) (-9) e 1 ∧ VR s lo hi elo ehi E e
  | .length A, v => ∃ a, cel s lo hi v 6 (-9) a (-9) (-9) 1 ∧ VR s lo hi elo ehi A a
  | .rem (.index n) (.elem A (.elem B E)), v => ∃ a b e, cel s lo hi v 7 n a b e 1 ∧ VR s lo hi elo ehi A a ∧ ((B = .null ∧ b = -9) ∨ (B ≠ .null ∧ VR s lo hi elo ehi B b)) ∧ ((E = .null ∧ e = -9) ∨ (E ≠ .null ∧ VR s lo hi elo ehi E e))
  | .mul r x, e => (mlen r < 26 ∧ elo ≤ e ∧ e < ehi) ∧ VR s lo hi elo ehi r e ∧ ((x = .null ∧ s.2 53 (26 * e + mlen r) = -9) ∨ (x ≠ .null ∧ VR s lo hi elo ehi x (s.2 53 (26 * e + mlen r))))
  | .null, e => elo ≤ e ∧ e < ehi
  | _, _ => False
/-- cells from lo to hi stay -/
def KEEP (s w : SM) (lo hi elo ehi : Int) : Prop := (∀ f v, (f = 46 ∨ f = 47 ∨ f = 48 ∨ f = 49 ∨ f = 50 ∨ f = 51) → lo ≤ v → v < hi → w.2 f v = s.2 f v) ∧ ∀ j, 26 * elo ≤ j → j < 26 * ehi → w.2 53 j = s.2 53 j
theorem cel_k {s w : SM} {lo hi lo' hi' v k n a b e h elo ehi : Int} (hc : cel s lo hi v k n a b e h) (hk : KEEP s w lo hi elo ehi) (hl : lo' ≤ lo) (hh : hi ≤ hi') : cel w lo' hi' v k n a b e h := by
  obtain ⟨⟨h1, h2⟩, h3, h4, h5, h6, h7, h8⟩ := hc
  refine ⟨⟨by omega, by omega⟩, ?_, ?_, ?_, ?_, ?_, ?_⟩
  · rw [hk.1 46 v (by decide) h1 h2]; exact h3
  · rw [hk.1 47 v (by decide) h1 h2]; exact h4
  · rw [hk.1 48 v (by decide) h1 h2]; exact h5
  · rw [hk.1 49 v (by decide) h1 h2]; exact h6
  · rw [hk.1 50 v (by decide) h1 h2]; exact h7
  · rw [hk.1 51 v (by decide) h1 h2]; exact h8
theorem VR_k0 {s w : SM} {lo hi lo' hi' elo ehi elo' ehi' : Int} (hk : KEEP s w lo hi elo ehi) (hl : lo' ≤ lo) (hh : hi ≤ hi') (hel : elo' ≤ elo) (he : ehi ≤ ehi') : ∀ (n : Nat) (V : Term) (v : Int), SizeOf.sizeOf V < n → VR s lo hi elo ehi V v → VR w lo' hi' elo' ehi' V v := by
  intro n
  induction n with
  | zero => intro V v h; omega
  | succ n ih =>
    intro V v hn h
    have ce : ∀ {k m a b e q : Int}, cel s lo hi v k m a b e q → cel w lo' hi' v k m a b e q := fun h => cel_k h hk hl hh
    cases V with
    | int z => exact ce h
    | arg z => exact ce h
    | index z => exact ce h
    | sub d E =>
      cases d with
      | index d =>
        obtain ⟨e, h1, h2⟩ := h
        exact ⟨e, ce h1, ih E e (by simp at hn; omega) h2⟩
      | _ => exact h.elim
    | add A B =>
      obtain ⟨a, b, h1, h2, h3⟩ := h
      exact ⟨a, b, ce h1, ih A a (by simp at hn; omega) h2, ih B b (by simp at hn; omega) h3⟩
    | div d E =>
      cases d with
      | index d =>
        obtain ⟨e, h1, h2⟩ := h
        exact ⟨e, ce h1, ih E e (by simp at hn; omega) h2⟩
      | _ => exact h.elim
    | length A =>
      obtain ⟨a, h1, h2⟩ := h
      exact ⟨a, ce h1, ih A a (by simp at hn; omega) h2⟩
    | rem d q =>
      cases d with
      | index d =>
        cases q with
        | elem A q =>
          cases q with
          | elem B E =>
            obtain ⟨a, b, e, h1, h2, h3, h4⟩ := h
            refine ⟨a, b, e, ce h1, ih A a (by simp at hn; omega) h2, h3.imp id (fun q => ⟨q.1, ih B b (by simp at hn; omega) q.2⟩), h4.imp id (fun q => ⟨q.1, ih E e (by simp at hn; omega) q.2⟩)⟩
          | _ => exact h.elim
        | _ => exact h.elim
      | _ => exact h.elim
    | mul r x =>
      obtain ⟨⟨h0, h1, h2⟩, h3, h4⟩ := h
      have e53 : w.2 53 (26 * v + mlen r) = s.2 53 (26 * v + mlen r) := hk.2 _ (by omega) (by omega)
      refine ⟨⟨h0, by omega, by omega⟩, ih r v (by simp at hn; omega) h3, ?_⟩
      rw [e53]
      exact h4.imp id (fun q => ⟨q.1, ih x _ (by simp at hn; omega) q.2⟩)
    | null =>
      have h : elo ≤ v ∧ v < ehi := h
      show elo' ≤ v ∧ v < ehi'
      exact ⟨by omega, by omega⟩
    | _ => exact h.elim
theorem VR_k {s w : SM} {lo hi hi' elo ehi ehi' : Int} {V : Term} {v : Int} (h : VR s lo hi elo ehi V v) (hk : KEEP s w lo hi elo ehi) (hh : hi ≤ hi') (he : ehi ≤ ehi') : VR w lo hi' elo ehi' V v := VR_k0 hk (Int.le_refl _) hh (Int.le_refl _) he (SizeOf.sizeOf V + 1) V v (Nat.lt_succ_self _) h
theorem VR_g {s w : SM} {lo hi lo' hi' elo ehi elo' ehi' : Int} {V : Term} {v : Int} (h : VR s lo hi elo ehi V v) (hk : KEEP s w lo hi elo ehi) (hl : lo' ≤ lo) (hh : hi ≤ hi') (hel : elo' ≤ elo) (he : ehi ≤ ehi') : VR w lo' hi' elo' ehi' V v := VR_k0 hk hl hh hel he (SizeOf.sizeOf V + 1) V v (Nat.lt_succ_self _) h
/-- of an env, letter by letter -/
def EL (s : SM) (lo hi elo ehi : Int) (E : Term) (e x : Int) : Prop := (lkE E x = .null ∧ s.2 53 (26 * e + x) = -9) ∨ (lkE E x ≠ .null ∧ VR s lo hi elo ehi (lkE E x) (s.2 53 (26 * e + x)))
theorem VR_E {s : SM} {lo hi elo ehi : Int} : ∀ (n : Nat) (E : Term) (e : Int), isE n E → n ≤ 26 → (VR s lo hi elo ehi E e ↔ ((elo ≤ e ∧ e < ehi) ∧ ∀ x : Int, 0 ≤ x → x < n → EL s lo hi elo ehi E e x)) := by
  intro n
  induction n with
  | zero =>
    intro E e h _
    cases E with
    | null => exact ⟨fun q => ⟨q, fun x x0 x1 => by omega⟩, fun q => q.1⟩
    | _ => exact h.elim
  | succ n ih =>
    intro E e h hn
    cases E with
    | mul r y =>
      have hr : isE n r := h
      have hl := isE_len n r hr
      have i1 := ih r e hr (by omega)
      have lk : ∀ x, lkE (.mul r y) x = if (mlen r : Int) = x then y else lkE r x := fun x => rfl
      constructor
      · rintro ⟨⟨h0, h1, h2⟩, h3, h4⟩
        refine ⟨⟨h1, h2⟩, fun x x0 x1 => ?_⟩
        unfold EL
        rw [lk]
        by_cases q : (mlen r : Int) = x
        · rw [if_pos q, ← q]; exact h4
        · rw [if_neg q]
          exact (i1.mp h3).2 x x0 (by omega)
      · rintro ⟨⟨h1, h2⟩, h3⟩
        refine ⟨⟨by omega, h1, h2⟩, i1.mpr ⟨⟨h1, h2⟩, fun x x0 x1 => ?_⟩, ?_⟩
        · have := h3 x x0 (by omega)
          unfold EL at this ⊢
          rw [lk, if_neg (by omega)] at this
          exact this
        · have := h3 (mlen r) (by omega) (by omega)
          unfold EL at this
          rw [lk, if_pos rfl] at this
          exact this
    | _ => exact h.elim
/-- a new value's cells -/
def VAL (s w : SM) (k n a b e : Int) : Prop := eqx [52] [46, 47, 48, 49, 50, 51] s w ∧ w.1 52 = s.1 52 + 1 ∧ (∀ f v, (f = 46 ∨ f = 47 ∨ f = 48 ∨ f = 49 ∨ f = 50 ∨ f = 51) → v ≠ s.1 52 → w.2 f v = s.2 f v) ∧ w.2 46 (s.1 52) = k ∧ w.2 47 (s.1 52) = n ∧ w.2 48 (s.1 52) = a ∧ w.2 49 (s.1 52) = b ∧ w.2 50 (s.1 52) = e ∧ w.2 51 (s.1 52) = if 4 ≤ k ∨ (k = 3 ∧ a ≠ -9 ∧ b ≠ -9 ∧ (s.2 51 a ≠ 0 ∨ s.2 51 b ≠ 0)) then 1 else 0
section
variable {iv : List (Int × Int)} {L : Nat} {h0 : MH} {s : SM} {t : Term} {d : Nat}
theorem val_ok {k n a b e : Int} {F : Int → SM → Prop} (h52 : 0 ≤ s.1 52 ∧ s.1 52 < 2600) (hab : k = 3 → a ≠ -9 → b ≠ -9 → (0 ≤ a ∧ a < 2600) ∧ 0 ≤ b ∧ b < 2600) (hF : ∀ w, VAL s w k n a b e → F (s.1 52) w) : cm iv L h0 d 121 [vr 307, vi k, vi n, vi a, vi b, vi e] s (qi F) := by
  have fin : ∀ z, z = (if 4 ≤ k ∨ (k = 3 ∧ a ≠ -9 ∧ b ≠ -9 ∧ (s.2 51 a ≠ 0 ∨ s.2 51 b ≠ 0)) then 1 else 0) → F (s.1 52) (ua (ua (ua (ua (ua (ua (us s 52 ((s.1 52) + 1)) 46 (s.1 52) k) 47 (s.1 52) n) 48 (s.1 52) a) 49 (s.1 52) b) 50 (s.1 52) e) 51 (s.1 52) z) := fun z hz => by
    refine hF _ ⟨eqx_ua (eqx_ua (eqx_ua (eqx_ua (eqx_ua (eqx_ua (eqx_us eqx.rf (by decide)) (by decide)) (by decide)) (by decide)) (by decide)) (by decide)) (by decide), rfl, fun f v hf hv => ?_, ?_, ?_, ?_, ?_, ?_, ?_⟩
    · simp [ua_2, us_2, hv]
    · simp [ua_2, us_2]
    · simp [ua_2, us_2]
    · simp [ua_2, us_2]
    · simp [ua_2, us_2]
    · simp [ua_2, us_2]
    · rw [← hz]; simp [ua_2]
  refine B121 ⟨by omega, by omega, fun q => fin 1 ?_, fun q => ⟨fun q2 => fin 0 ?_, fun q2 => ⟨fun q3 => fin 0 ?_, fun q3 => ⟨fun q4 => fin 0 ?_, fun q4 => ?_⟩⟩⟩⟩
  · rw [if_pos (Or.inl q)]
  · rw [if_neg (by omega)]
  · rw [if_neg (by omega)]
  · rw [if_neg (by omega)]
  · obtain ⟨r1, r2⟩ := hab q2 q3 q4
    refine ⟨r1, fun q5 => fin 1 ?_, fun q5 => ⟨r2, fun q6 => fin 0 ?_, fun q6 => fin 1 ?_⟩⟩
    · rw [if_pos (Or.inr ⟨q2, q3, q4, Or.inl q5⟩)]
    · rw [if_neg (by omega)]
    · rw [if_pos (Or.inr ⟨q2, q3, q4, Or.inr q6⟩)]
/-- a new env -/
def NEW (s w : SM) (a : Int) : Prop := eqx [54] [53] s w ∧ w.1 54 = s.1 54 + 1 ∧ (∀ j, j < 26 * s.1 54 ∨ 26 * s.1 54 + 26 ≤ j → w.2 53 j = s.2 53 j) ∧ ∀ x, 0 ≤ x → x < 26 → w.2 53 (26 * s.1 54 + x) = if a = -9 then -9 else s.2 53 (26 * a + x)
theorem newEnv_ok {a : Int} {F : Int → SM → Prop} (h54 : 0 ≤ s.1 54 ∧ s.1 54 < 1280) (ha : a = -9 ∨ (0 ≤ a ∧ a < s.1 54) ∨ (s.1 54 < a ∧ a < 1280)) (hF : ∀ w, NEW s w a → F (s.1 54) w) : cm iv L h0 d 122 [vr 307, vi a] s (qi F) := by
  have key : ∀ (m : Nat) (k : Int) (w : SM), 0 ≤ k → k + m = 26 → eqx [54] [53] s w → w.1 54 = s.1 54 + 1 → (∀ j, j < 26 * s.1 54 ∨ 26 * s.1 54 + k ≤ j → w.2 53 j = s.2 53 j) → (∀ x, 0 ≤ x → x < k → w.2 53 (26 * s.1 54 + x) = if a = -9 then -9 else s.2 53 (26 * a + x)) → wm iv L h0 d 122 17 [lr 307, li a, li (s.1 54), li k] [] w (qi F) := by
    intro m
    induction m with
    | zero =>
      intro k w k0 hk w1 w2 w3 w4
      obtain rfl : k = 26 := by omega
      exact B122_17 ⟨fun _ => hF w ⟨w1, w2, w3, w4⟩, fun q => by omega⟩
    | succ m ih =>
      intro k w k0 hk w1 w2 w3 w4
      have nx : ∀ z, z = (if a = -9 then -9 else s.2 53 (26 * a + k)) → wm iv L h0 d 122 17 [lr 307, li a, li (s.1 54), li (k + 1)] [] (ua w 53 (26 * s.1 54 + k) z) (qi F) := fun z hz => by
        refine ih (k + 1) _ (by omega) (by omega) (eqx_ua w1 (by decide)) w2 (fun j hj => ?_) (fun x x0 x1 => ?_)
        · rw [ua_2, if_neg (by omega)]
          exact w3 j (by omega)
        · rw [ua_2]
          by_cases q : x = k
          · rw [if_pos (by rw [q]; exact ⟨rfl, rfl⟩), q]
            exact hz
          · rw [if_neg (by omega)]
            exact w4 x x0 (by omega)
      refine B122_17 ⟨fun q => by omega, fun _ => ⟨by omega, by omega, fun q => ⟨by omega, by omega, by omega, by omega, by omega, nx _ ?_⟩, fun q => ⟨by omega, by omega, nx _ ?_⟩⟩⟩
      · rw [if_neg q]
        exact w3 _ (by omega)
      · rw [if_pos q]
  exact B122 ⟨by omega, key 26 0 _ (by decide) (by decide) (eqx_us eqx.rf (by decide)) rfl (fun j _ => rfl) (fun x x0 x1 => by omega)⟩
end
end
section
/-! The reference works as evw says: what leads there. -/
def vkd : Term → Int
  | .int _ => 0
  | .arg _ => 1
  | .sub _ _ => 2
  | .add _ _ => 3
  | .div _ _ => 4
  | .index _ => 5
  | .length _ => 6
  | _ => 7
theorem VR_kind {s : SM} {lo hi elo ehi : Int} {V : Term} {v : Int} (hv : isV V = true) (h : VR s lo hi elo ehi V v) : s.2 46 v = vkd V ∧ (lo ≤ v ∧ v < hi) ∧ s.2 51 v = if hsL V = true then 1 else 0 := by
  cases V with
  | int z => obtain ⟨h1, h2, _, _, _, _, h3⟩ := h; exact ⟨h2, h1, h3⟩
  | arg z => obtain ⟨h1, h2, _, _, _, _, h3⟩ := h; exact ⟨h2, h1, h3⟩
  | index z => obtain ⟨h1, h2, _, _, _, _, h3⟩ := h; exact ⟨h2, h1, h3⟩
  | sub d E =>
    cases d with
    | index d => obtain ⟨e, ⟨h1, h2, _, _, _, _, h3⟩, _⟩ := h; exact ⟨h2, h1, h3⟩
    | _ => cases hv
  | add A B => obtain ⟨a, b, ⟨h1, h2, _, _, _, _, h3⟩, _⟩ := h; exact ⟨h2, h1, h3⟩
  | div d E =>
    cases d with
    | index d => obtain ⟨e, ⟨h1, h2, _, _, _, _, h3⟩, _⟩ := h; exact ⟨h2, h1, h3⟩
    | _ => cases hv
  | length A => obtain ⟨a, ⟨h1, h2, _, _, _, _, h3⟩, _⟩ := h; exact ⟨h2, h1, h3⟩
  | rem d q =>
    cases d with
    | index d =>
      cases q with
      | elem A q =>
        cases q with
        | elem B E => obtain ⟨a, b, e, ⟨h1, h2, _, _, _, _, h3⟩, _⟩ := h; exact ⟨h2, h1, h3⟩
        | _ => cases hv
      | _ => cases hv
    | _ => cases hv
  | _ => cases hv
theorem isW_kd {V : Term} (hv : isV V = true) : isW V = decide (4 ≤ vkd V) := by
  cases V with
  | _ => first | rfl | (cases hv)
/-- cells outside of those made since stay -/
def FRM (s w : SM) : Prop := eqx [52, 54, 56, 58, 59, 60] [46, 47, 48, 49, 50, 51, 53] s w ∧ (∀ f v, (f = 46 ∨ f = 47 ∨ f = 48 ∨ f = 49 ∨ f = 50 ∨ f = 51) → (v < s.1 52 ∨ w.1 52 ≤ v) → w.2 f v = s.2 f v) ∧ ∀ j, (j < 26 * s.1 54 ∨ 26 * w.1 54 ≤ j) → w.2 53 j = s.2 53 j
theorem FRM.rf {s : SM} : FRM s s := ⟨eqx.rf, fun _ _ _ _ => rfl, fun _ _ => rfl⟩
theorem FRM.tr {s w v : SM} (h1 : FRM s w) (h2 : FRM w v) (a1 : s.1 52 ≤ w.1 52 ∧ w.1 52 ≤ v.1 52) (a2 : s.1 54 ≤ w.1 54 ∧ w.1 54 ≤ v.1 54) : FRM s v :=
  ⟨h1.1.tr h2.1, fun f x hf hx => (h2.2.1 f x hf (by omega)).trans (h1.2.1 f x hf (by omega)), fun j hj => (h2.2.2 j (by omega)).trans (h1.2.2 j (by omega))⟩
theorem FRM.keep {s w : SM} {lo hi elo ehi : Int} (h : FRM s w) (h1 : hi ≤ s.1 52 ∨ w.1 52 ≤ lo) (h2 : ehi ≤ s.1 54 ∨ w.1 54 ≤ elo) : KEEP s w lo hi elo ehi :=
  ⟨fun f v hf v0 v1 => h.2.1 f v hf (by omega), fun j j0 j1 => h.2.2 j (by omega)⟩
/-- what working does: at most so many values and envs for each step, and some more -/
def WP (B C : Int) (kv ke : Int) (s : SM) (st : Int) (R : RS) (r : Int) (w : SM) : Prop := FRM s w ∧ (s.1 52 ≤ w.1 52 ∧ w.1 52 ≤ s.1 52 + 2 * (R.1 - st) + kv) ∧ (s.1 54 ≤ w.1 54 ∧ w.1 54 ≤ s.1 54 + 2 * (R.1 - st) + ke) ∧ (w.1 56 = R.1 ∧ w.1 58 = s.1 58 ∧ w.1 59 = R.2.1 ∧ w.1 60 = R.2.2.1) ∧ (R.2.1 = 0 → VR w B (w.1 52) C (w.1 54) R.2.2.2 r)
theorem WP.up {B C kv ke kv' ke' st r : Int} {s w : SM} {R : RS} (h : WP B C kv ke s st R r w) (h1 : kv ≤ kv') (h2 : ke ≤ ke') : WP B C kv' ke' s st R r w := by
  obtain ⟨a1, a2, a3, a4, a5⟩ := h
  exact ⟨a1, ⟨a2.1, by omega⟩, ⟨a3.1, by omega⟩, a4, a5⟩
theorem WP.st {B C kv ke st r r' : Int} {s w : SM} {R : RS} (h : WP B C kv ke s st R r w) (hR : R.2.1 ≠ 0) : WP B C kv ke s st R r' w := by
  obtain ⟨a1, a2, a3, a4, a5⟩ := h
  exact ⟨a1, a2, a3, a4, fun q => absurd q hR⟩
theorem WP.tr {B C kv ke kv' ke' st r r' : Int} {s w v : SM} {R R' : RS} (h : WP B C kv ke s st R r w) (h' : WP B C kv' ke' w R.1 R' r' v) : WP B C (kv + kv') (ke + ke') s st R' r' v := by
  obtain ⟨a1, a2, a3, a4, a5⟩ := h
  obtain ⟨b1, b2, b3, b4, b5⟩ := h'
  exact ⟨a1.tr b1 ⟨a2.1, b2.1⟩ ⟨a3.1, b3.1⟩, ⟨by omega, by omega⟩, ⟨by omega, by omega⟩, ⟨b4.1, b4.2.1.trans a4.2.1, b4.2.2⟩, b5⟩
/-- a state in the midst of working: so many levels may be begun, so many steps are done, so much room is left over -/
def WS (σ : SM) (most B C : Int) (n : Nat) (st k : Int) (s : SM) : Prop := eqx [52, 54, 56, 58, 59, 60] [46, 47, 48, 49, 50, 51, 53] σ s ∧ (s.1 56 = st ∧ s.1 58 = 60 - n ∧ s.1 59 = 0 ∧ s.1 60 = -9) ∧ (0 ≤ st ∧ st ≤ most) ∧ (B ≤ s.1 52 ∧ s.1 52 + 2 * (most - st) + k ≤ 1300 * σ.1 55 + 610) ∧ C ≤ s.1 54 ∧ s.1 54 + 2 * (most - st) + k ≤ 640 * σ.1 55 + 610
theorem WS.up {σ s : SM} {most B C st k k' : Int} {n : Nat} (h : WS σ most B C n st k s) (hk : k' ≤ k) : WS σ most B C n st k' s := by
  obtain ⟨a1, a2, a3, a4, a5⟩ := h
  exact ⟨a1, a2, a3, by omega, by omega⟩
theorem WS.nx {σ s w : SM} {most B C st k kv ke k' r : Int} {n : Nat} {R : RS} (h : WS σ most B C n st k s) (hw : WP B C kv ke s st R r w) (h1 : st ≤ R.1 ∧ R.1 ≤ most) (h2 : R.2.1 = 0 ∧ R.2.2.1 = -9) (hk : kv + k' ≤ k ∧ ke + k' ≤ k) : WS σ most B C n R.1 k' w := by
  obtain ⟨a1, a2, a3, a4, a5⟩ := h
  obtain ⟨b1, b2, b3, b4, b5⟩ := hw
  exact ⟨a1.tr b1.1, ⟨b4.1, by omega, by omega, by omega⟩, by omega, by omega, by omega⟩
/-- the ground of a working -/
def WCX (σ : SM) (t : Term) (most B C : Int) : Prop := (SHT σ t ∧ NB σ ∧ RSN σ t) ∧ σ.1 57 = most ∧ (0 ≤ most ∧ most ≤ 300) ∧ ((σ.1 55 = 0 ∨ σ.1 55 = 1) ∧ 1300 * σ.1 55 ≤ B ∧ 640 * σ.1 55 ≤ C) ∧ ∀ b, 0 ≤ b → b < σ.1 8 → σ.2 42 b = 0 ∨ (b < σ.2 42 b - 1 ∧ σ.2 42 b - 1 < σ.1 8)
/-- the other half -/
def OLDH (σ : SM) (lo hi elo ehi : Int) : Prop := (0 ≤ lo ∧ hi ≤ 2600 ∧ 0 ≤ elo ∧ ehi ≤ 1280) ∧ (hi ≤ 1300 * σ.1 55 ∨ 1300 * σ.1 55 + 1300 ≤ lo) ∧ (ehi ≤ 640 * σ.1 55 ∨ 640 * σ.1 55 + 640 ≤ elo)
section
variable {iv : List (Int × Int)} {L : Nat} {h0 : MH} {σ s : SM} {t : Term} {d n : Nat} {most B C st k : Int}
theorem WCX.bc (h : WCX σ t most B C) : (0 ≤ most ∧ most ≤ 300) ∧ ((σ.1 55 = 0 ∨ σ.1 55 = 1) ∧ 1300 * σ.1 55 ≤ B ∧ 640 * σ.1 55 ≤ C) := ⟨h.2.2.1, h.2.2.2.1⟩
/-- a new value -/
theorem wp_new {kk nn a b e : Int} {V : Term} {F : Int → SM → Prop} (hX : WCX σ t most B C) (hS : WS σ most B C n st k s) (hk : 0 ≤ k) (hab : kk = 3 → a ≠ -9 → b ≠ -9 → (0 ≤ a ∧ a < 2600) ∧ 0 ≤ b ∧ b < 2600) (hV : ∀ w, VAL s w kk nn a b e → KEEP s w B (s.1 52) C (s.1 54) → (B ≤ s.1 52 ∧ s.1 52 < w.1 52) → w.1 54 = s.1 54 → VR w B (w.1 52) C (w.1 54) V (s.1 52)) (hF : ∀ w, WP B C 1 0 s st (rok st V) (s.1 52) w → F (s.1 52) w) : cm iv L h0 d 121 [vr 307, vi kk, vi nn, vi a, vi b, vi e] s (qi F) := by
  obtain ⟨m1, m2⟩ := hX.bc
  obtain ⟨a1, a2, a3, a4, a5⟩ := hS
  refine val_ok (by omega) hab (fun w hw => hF w ?_)
  obtain ⟨w1, w2, w3, w4⟩ := id hw
  have w54 : w.1 54 = s.1 54 := w1.1 54 (by decide)
  have fr : FRM s w := ⟨w1.up (by decide) (by decide), fun f v hf hv => w3 f v hf (by omega), fun j _ => by rw [w1.2 53 (by decide)]⟩
  refine ⟨fr, ⟨by omega, by show w.1 52 ≤ s.1 52 + 2 * (st - st) + 1; omega⟩, ⟨by omega, by show w.1 54 ≤ s.1 54 + 2 * (st - st) + 0; omega⟩, ⟨?_, w1.1 58 (by decide), ?_, ?_⟩, fun _ => hV w hw (fr.keep (Or.inl (Int.le_refl _)) (Or.inl (Int.le_refl _))) ⟨a4.1, by omega⟩ w54⟩
  · rw [w1.1 56 (by decide)]; exact a2.1
  · rw [w1.1 59 (by decide)]; exact a2.2.2.1
  · rw [w1.1 60 (by decide)]; exact a2.2.2.2
theorem vcel {s w : SM} {kk nn a b e h : Int} (hw : VAL s w kk nn a b e) (hlo : B ≤ s.1 52 ∧ s.1 52 < w.1 52) (hh : h = if 4 ≤ kk ∨ (kk = 3 ∧ a ≠ -9 ∧ b ≠ -9 ∧ (s.2 51 a ≠ 0 ∨ s.2 51 b ≠ 0)) then 1 else 0) : cel w B (w.1 52) (s.1 52) kk nn a b e h := by
  obtain ⟨w1, w2, w3, w4, w5, w6, w7, w8, w9⟩ := hw
  exact ⟨hlo, w4, w5, w6, w7, w8, by rw [hh]; exact w9⟩
/-- it stopped -/
theorem wp_stop {how b : Int} {F : Int → SM → Prop} (hS : WS σ most B C n st k s) (hF : ∀ w, WP B C 0 0 s st (rst st how b) (-9) w → F (-9) w) (hh : how ≠ 0) : cm iv L h0 d 124 [vr 307, vi how, vi b] s (qi F) := by
  obtain ⟨a1, a2, a3, a4, a5⟩ := hS
  refine B124 (hF _ ⟨⟨eqx_us (eqx_us eqx.rf (by decide)) (by decide), fun _ _ _ _ => rfl, fun _ _ => rfl⟩, ⟨Int.le_refl _, by show s.1 52 ≤ s.1 52 + 2 * (st - st) + 0; omega⟩, ⟨Int.le_refl _, by show s.1 54 ≤ s.1 54 + 2 * (st - st) + 0; omega⟩, ⟨a2.1, rfl, rfl, rfl⟩, fun q => absurd q hh⟩)
theorem isLeft_ok {V : Term} {v lo hi elo ehi : Int} {F : Int → SM → Prop} (hv : isV V = true) (h : VR s lo hi elo ehi V v) (h0' : 0 ≤ lo ∧ hi ≤ 2600) (hF : F (if isW V = true then 1 else 0) s) : cm iv L h0 d 125 [vr 307, vi v] s (qi F) := by
  obtain ⟨h1, h2, h3⟩ := VR_kind hv h
  rw [isW_kd hv] at hF
  refine B125 ⟨by omega, fun q => ?_, fun q => ?_⟩
  · rw [decide_eq_false (by omega), if_neg (by decide)] at hF; exact hF
  · rw [decide_eq_true (by omega), if_pos rfl] at hF; exact hF
/-- what is LEFT of an act, or a clash -/
theorem wp_lft {b x y e : Int} {X Y E : Term} {F : Int → SM → Prop} (hX : WCX σ t most B C) (hS : WS σ most B C n st k s) (hk : 0 ≤ k) (hb : 0 ≤ b) (hx : isV X = true ∧ VR s B (s.1 52) C (s.1 54) X x) (hy : (Y = .null ∧ y = -9) ∨ (Y ≠ .null ∧ VR s B (s.1 52) C (s.1 54) Y y)) (he : (E = .null ∧ e = -9) ∨ (E ≠ .null ∧ VR s B (s.1 52) C (s.1 54) E e)) (hF : ∀ w, WP B C 1 0 s st (rok st (.rem (.index b.toNat) (.elem X (.elem Y E)))) (s.1 52) w → F (s.1 52) w) : cm iv L h0 d 121 [vr 307, vi 7, vi b, vi x, vi y, vi e] s (qi F) := by
  refine wp_new hX hS hk (fun q => by omega) (fun w hw hkp hlo h54 => ?_) hF
  have e54 : s.1 54 ≤ w.1 54 := by omega
  have h52 : s.1 52 ≤ w.1 52 := by omega
  refine ⟨x, y, e, ?_, VR_k hx.2 hkp h52 e54, hy.imp id (fun q => ⟨q.1, VR_k q.2 hkp h52 e54⟩), he.imp id (fun q => ⟨q.1, VR_k q.2 hkp h52 e54⟩)⟩
  rw [show ((b.toNat : Nat) : Int) = b by omega]
  exact vcel hw hlo (by rw [if_pos (Or.inl (by decide))])
theorem filling_ok {b : Int} {F : Int → SM → Prop} (hX : WCX σ t most B C) (hs : s.2 42 = σ.2 42) (hb : 0 ≤ b ∧ b < σ.1 8) (hF : F (if fllF (σ.2 42) b = b then -9 else fllF (σ.2 42) b) s) : cm iv L h0 d 130 [vr 307, vi b] s (qi F) := by
  have h8 := hX.1.1.2.2.2.2.1
  have fb := hX.2.2.2.2
  have key : ∀ (n : Nat) (c : Int), 0 ≤ c → c < σ.1 8 → σ.1 8 - c ≤ n → F (if fllN (σ.2 42) n c = b then -9 else fllN (σ.2 42) n c) s → wm iv L h0 d 130 2 [lr 307, li b, li c] [] s (qi F) := by
    intro n
    induction n with
    | zero => intro c c0 c1 hn; omega
    | succ n ih =>
      intro c c0 c1 hn hF
      rw [show fllN (σ.2 42) (n + 1) c = if 0 < σ.2 42 c then fllN (σ.2 42) n (σ.2 42 c - 1) else c from rfl] at hF
      refine B130_2 ⟨by omega, fun q => ?_, fun q => ?_⟩
      · rw [hs] at q
        simp only [if_neg (show ¬ 0 < σ.2 42 c by omega)] at hF
        refine ⟨fun q2 => ?_, fun q2 => ?_⟩
        · rw [if_neg q2] at hF; exact hF
        · rw [if_pos q2] at hF; exact hF
      · rw [hs] at q ⊢
        simp only [if_pos q] at hF
        have := fb c c0 c1
        exact ⟨by omega, ih _ (by omega) (by omega) (by omega) hF⟩
  exact B130 (key 3004 b hb.1 hb.2 (by omega) hF)
/-- a new env: one with a letter more -/
theorem wp_env {a : Int} {E : Term} {F : Int → SM → Prop} (hX : WCX σ t most B C) (hS : WS σ most B C n st k s) (hk : 1 ≤ k) (hE : isE 26 E) (ha : VR s B (s.1 52) C (s.1 54) E a) (hF : ∀ w, WP B C 0 1 s st (rok st E) (s.1 54) w → w.1 54 = s.1 54 + 1 → w.1 52 = s.1 52 → w.2 10 = s.2 10 → w.2 14 = s.2 14 → (∀ y, 0 ≤ y → y < 26 → EL w B (s.1 52) C (s.1 54) E (s.1 54) y) → KEEP s w B (s.1 52) C (s.1 54) → F (s.1 54) w) : cm iv L h0 d 122 [vr 307, vi a] s (qi F) := by
  obtain ⟨m1, m2⟩ := hX.bc
  obtain ⟨a1, a2, a3, a4, a5⟩ := hS
  obtain ⟨c1, c2⟩ := (VR_E 26 E a hE (Nat.le_refl _)).mp ha
  refine newEnv_ok (by omega) (Or.inr (Or.inl ⟨by omega, c1.2⟩)) (fun w hw => ?_)
  obtain ⟨w1, w2, w3, w4⟩ := hw
  have w52 : w.1 52 = s.1 52 := w1.1 52 (by decide)
  have fr : FRM s w := ⟨w1.up (by decide) (by decide), fun f v hf _ => by rw [w1.2 f (by simp; omega)], fun j hj => w3 j (by omega)⟩
  have hkp := fr.keep (lo := B) (elo := C) (Or.inl (Int.le_refl _)) (Or.inl (Int.le_refl _))
  have el : ∀ y, 0 ≤ y → y < 26 → EL w B (s.1 52) C (s.1 54) E (s.1 54) y := fun y y0 y1 => by
    have e := w4 y y0 y1
    rw [if_neg (by omega)] at e
    unfold EL
    rw [e]
    exact (c2 y y0 y1).imp id (fun q => ⟨q.1, VR_k q.2 hkp (Int.le_refl _) (Int.le_refl _)⟩)
  refine hF w ⟨fr, ⟨by omega, by show w.1 52 ≤ s.1 52 + 2 * (st - st) + 0; omega⟩, ⟨by omega, by show w.1 54 ≤ s.1 54 + 2 * (st - st) + 1; omega⟩, ⟨?_, w1.1 58 (by decide), ?_, ?_⟩, fun _ => (VR_E 26 E _ hE (Nat.le_refl _)).mpr ⟨by omega, fun x x0 x1 => ?_⟩⟩ w2 w52 (w1.2 10 (by decide)) (w1.2 14 (by decide)) el hkp
  · rw [w1.1 56 (by decide)]; exact a2.1
  · rw [w1.1 59 (by decide)]; exact a2.2.2.1
  · rw [w1.1 60 (by decide)]; exact a2.2.2.2
  · exact (el x x0 x1).imp id (fun q => ⟨q.1, VR_k q.2 ⟨fun _ _ _ _ _ => rfl, fun _ _ _ => rfl⟩ (by omega) (by omega)⟩)
/-- a letter of the newest env is bound -/
theorem env_put {s w : SM} {x v : Int} {V E : Term} {e : Int} (hw : w = ua s 53 (26 * e + x) v) (hE : isE 26 E) (hx : 0 ≤ x ∧ x < 26) (he : s.1 54 = e + 1) (hV : isV V = true ∧ VR s B (s.1 52) C e V v) (h : ∀ y, 0 ≤ y → y < 26 → EL s B (s.1 52) C e E e y) (hC : C ≤ e) : VR w B (w.1 52) C (w.1 54) (upE E x V) e := by
  subst hw
  have k0 : KEEP s (ua s 53 (26 * e + x) v) B (s.1 52) C e := ⟨fun f u hf _ _ => by rw [ua_2, if_neg (by omega)], fun j j0 j1 => by rw [ua_2, if_neg (by omega)]⟩
  have w54 : (ua s 53 (26 * e + x) v).1 54 = e + 1 := he
  refine (VR_E 26 _ e (upE_is 26 E x V hE) (Nat.le_refl _)).mpr ⟨by omega, fun y y0 y1 => ?_⟩
  unfold EL
  rw [lkE_up 26 E x V y hE hx.1 hx.2, ua_2]
  by_cases q : y = x
  · rw [if_pos q, if_pos ⟨rfl, by omega⟩]
    exact Or.inr ⟨isV_nn hV.1, VR_k hV.2 k0 (Int.le_refl _) (by omega)⟩
  · rw [if_neg q, if_neg (by omega)]
    exact (h y y0 y1).imp id (fun q => ⟨q.1, VR_k q.2 k0 (Int.le_refl _) (by omega)⟩)
/-- a new env with a letter bound -/
theorem wp_bind {a x v : Int} {E V : Term} {F : Int → SM → Prop} (hX : WCX σ t most B C) (hS : WS σ most B C n st k s) (hk : 1 ≤ k) (hE : isE 26 E) (hx : 0 ≤ x ∧ x < 26) (ha : VR s B (s.1 52) C (s.1 54) E a) (hV : isV V = true ∧ VR s B (s.1 52) C (s.1 54) V v) (hF : ∀ w, w.2 10 = s.2 10 → w.2 14 = s.2 14 → WP B C 0 1 s st (rok st (upE E x V)) (s.1 54) (ua w 53 (26 * s.1 54 + x) v) → F (s.1 54) w) : cm iv L h0 d 122 [vr 307, vi a] s (qi F) := by
  have hC := hS.2.2.2.2.1
  refine wp_env hX hS hk hE ha (fun w hw w54 w52 w10 w14 el hkp => hF w w10 w14 ?_)
  obtain ⟨b1, b2, b3, b4, b5⟩ := hw
  refine ⟨⟨b1.1.tr (eqx_ua eqx.rf (by decide)), fun f u hf hu => ?_, fun j hj => ?_⟩, b2, b3, b4, fun _ => ?_⟩
  · rw [ua_2, if_neg (by omega)]; exact b1.2.1 f u hf hu
  · have hj : j < 26 * s.1 54 ∨ 26 * w.1 54 ≤ j := hj
    rw [ua_2, if_neg (by omega)]; exact b1.2.2 j hj
  · exact env_put rfl hE hx w54 ⟨hV.1, by rw [w52]; exact VR_k hV.2 hkp (Int.le_refl _) (Int.le_refl _)⟩ (fun y y0 y1 => by rw [w52]; exact el y y0 y1) hC
end
end
section
/-! The reference works as evw says: an act, a node. -/
abbrev EV (σ : SM) (most : Int) (n : Nat) : EW × EO := evw (σ.2 9) (σ.2 10) (σ.2 14) (σ.2 21) (σ.2 42) most n
def WCO (iv : List (Int × Int)) (L : Nat) (h0 : MH) (σ : SM) (t : Term) (most B C : Int) (n : Nat) : Prop := ∀ (b e st : Int) (E : Term) (s : SM), b ∈ fl t → isE 26 E → VN σ t E → cov σ b E → VR s B (s.1 52) C (s.1 54) E e → WS σ most B C n st 0 s → cm iv L h0 (3 * n + 8) 126 [vr 307, vi b, vi e] s (qi (WP B C 0 0 s st ((EV σ most n).1 b E st)))
def OCO (iv : List (Int × Int)) (L : Nat) (h0 : MH) (σ : SM) (t : Term) (most B C lo hi elo ehi : Int) (n : Nat) : Prop := ∀ (v st : Int) (V : Term) (s : SM), isV V = true → VO σ t V → VR s lo hi elo ehi V v → WS σ most B C n st 0 s → cm iv L h0 (3 * n + 8) 132 [vr 307, vi v] s (qi (WP B C 0 0 s st ((EV σ most n).2 V st)))
/-- nodes are as they were when it began -/
theorem WS.row {σ s : SM} {most B C st k : Int} {n : Nat} (h : WS σ most B C n st k s) {f : Nat} (hf : f ≠ 46 ∧ f ≠ 47 ∧ f ≠ 48 ∧ f ≠ 49 ∧ f ≠ 50 ∧ f ≠ 51 ∧ f ≠ 53) : s.2 f = σ.2 f := h.1.2 f (by simp; omega)
section
variable {iv : List (Int × Int)} {L : Nat} {h0 : MH} {σ s : SM} {t : Term} {d n : Nat} {most B C st k : Int}
theorem reck_ok {b x y : Int} {X Y : Term} {F : Int → SM → Prop} (hX : WCX σ t most B C) (hS : WS σ most B C n st k s) (hk : 0 ≤ k) (hb : b ∈ fl t) (hso : σ.2 9 b = 4 ∨ σ.2 9 b = 5 ∨ σ.2 9 b = 6 ∨ σ.2 9 b = 7) (hx : isV X = true ∧ VR s B (s.1 52) C (s.1 54) X x) (hy : isV Y = true ∧ VR s B (s.1 52) C (s.1 54) Y y) (hF : ∀ r w, WP B C 1 0 s st (rckE (σ.2 9 b) b X Y st) r w → F r w) : cm iv L h0 (d + 1) 129 [vr 307, vi b, vi x, vi y] s (qi F) := by
  obtain ⟨m1, m2⟩ := hX.bc
  have hbl := hX.1.1.lt hb
  have h52 : B ≤ s.1 52 ∧ s.1 52 ≤ 1300 * σ.1 55 + 610 := by obtain ⟨a1, a2, a3, a4, a5⟩ := hS; omega
  have e9 : s.2 9 = σ.2 9 := hS.row (by decide)
  obtain ⟨kx1, kx2, kx3⟩ := VR_kind hx.1 hx.2
  obtain ⟨ky1, ky2, ky3⟩ := VR_kind hy.1 hy.2
  unfold rckE at hF
  have lft : (isW X || isW Y) = true → cm iv L h0 d 121 [vr 307, vi 7, vi b, vi x, vi y, vi (-9)] s (qi fun r4 s3 => F r4 s3) := fun q => by
    rw [if_pos q] at hF
    exact wp_lft hX hS hk hbl.1 hx (Or.inr ⟨isV_nn hy.1, hy.2⟩) (Or.inl ⟨rfl, rfl⟩) (fun w hw => hF _ w hw)
  refine B129 (isLeft_ok hx.1 hx.2 (by omega) ⟨fun q => lft ?_, fun q => isLeft_ok hy.1 hy.2 (by omega) ⟨fun q2 => ?_, fun q2 => lft ?_⟩⟩)
  · have : isW X = true := Classical.byContradiction fun c => by rw [if_neg c] at q; exact q rfl
    rw [this]; rfl
  · have wx : isW X = false := by
      cases h : isW X with
      | false => rfl
      | true => rw [h] at q; cases q
    have wy : isW Y = false := by
      cases h : isW Y with
      | false => rfl
      | true => rw [h] at q2; cases q2
    rw [wx, wy, if_neg (by decide)] at hF
    have clash : (∀ m n, ¬ (X = .int m ∧ Y = .int n)) → ∀ r w, WP B C 1 0 s st (rst st 3 b) r w → F r w := fun hno r w hw => by
      refine hF r w ?_
      split
      · exact absurd ⟨rfl, rfl⟩ (hno _ _)
      · exact hw
    have stop3 : (∀ m n, ¬ (X = .int m ∧ Y = .int n)) → cm iv L h0 d 124 [vr 307, vi 3, vi b] s (qi fun r9 s8 => F r9 s8) := fun hno => wp_stop hS (fun w hw => clash hno _ w (hw.up (by decide) (by decide))) (by decide)
    have i0 : ∀ {V : Term}, isV V = true → vkd V = 0 → ∃ z, V = .int z := fun {V} h1 h2 => by
      cases V with
      | int z => exact ⟨z, rfl⟩
      | sub d E => cases h2
      | _ => first | (cases h2) | (cases h1)
    refine ⟨by omega, fun q3 => stop3 (fun m n e => ?_), fun q3 => ⟨by omega, fun q4 => ?_, fun q4 => stop3 (fun m n e => ?_)⟩⟩
    · rw [e.1] at kx1; exact q3 kx1
    · obtain ⟨zx, rfl⟩ := i0 hx.1 (by rw [← kx1]; exact q3)
      obtain ⟨zy, rfl⟩ := i0 hy.1 (by rw [← ky1]; exact q4)
      have nx : s.2 47 x = zx.toInt := hx.2.2.2.1
      have ny : s.2 47 y = zy.toInt := hy.2.2.2.1
      have rx : inR zx.toInt := ⟨Int32.le_toInt zx, by have := Int32.toInt_lt zx; omega⟩
      rw [e9, nx, ny]
      have val : ∀ z : Int, inR z → (∀ r w, WP B C 1 0 s st (rok st (.int (Int32.ofInt z))) r w → F r w) → cm iv L h0 d 121 [vr 307, vi 0, vi z, vi (-9), vi (-9), vi (-9)] s (qi fun r15 s14 => F r15 s14) := fun z hz hG =>
        wp_new hX hS hk (fun q => by cases q) (fun w hw _ hlo h54 => by
          show cel w B (w.1 52) (s.1 52) 0 (Int32.ofInt z).toInt (-9) (-9) (-9) 0
          rw [i_to hz]
          exact vcel hw hlo (by rw [if_neg (by omega)])) (fun w hw => hG _ w hw)
      have tr : ∀ m : Nat, m ≤ 1 → (∀ r w, WP B C 1 0 s st (rok st (.arg m)) r w → F r w) → cm iv L h0 d 121 [vr 307, vi 1, vi (m : Int), vi (-9), vi (-9), vi (-9)] s (qi fun r15 s14 => F r15 s14) := fun m hm hG =>
        wp_new (V := .arg m) hX hS hk (fun q => by cases q) (fun w hw _ hlo h54 => vcel hw hlo (by rw [if_neg (by omega)])) (fun w hw => hG _ w hw)
      have hF' : ∀ r w, WP B C 1 0 s st (if σ.2 9 b = 7 then rok st (.arg (if zx.toInt < zy.toInt then 1 else 0)) else if σ.2 9 b = 6 ∧ zy.toInt = 0 then rst st 2 b else rok st (.int (Int32.ofInt (wh2 (σ.2 9 b) zx.toInt zy.toInt)))) r w → F r w := hF
      have w4 : σ.2 9 b = 4 → cm iv L h0 d 121 [vr 307, vi 0, vi (w32 (zx.toInt + zy.toInt)), vi (-9), vi (-9), vi (-9)] s (qi fun r15 s14 => F r15 s14) := fun e => val _ (w32_in _) (fun r w hw => hF' r w (by rw [if_neg (by omega), if_neg (by omega), e]; exact hw))
      have w5 : σ.2 9 b = 5 → cm iv L h0 d 121 [vr 307, vi 0, vi (w32 (zx.toInt * zy.toInt)), vi (-9), vi (-9), vi (-9)] s (qi fun r15 s14 => F r15 s14) := fun e => val _ (w32_in _) (fun r w hw => hF' r w (by rw [if_neg (by omega), if_neg (by omega), e]; exact hw))
      have w6 : σ.2 9 b = 6 → zy.toInt ≠ 0 → ((zy.toInt ≠ (-1) → (zy.toInt ≠ 0) ∧ (-2147483648 ≤ zx.toInt.tdiv zy.toInt ∧ zx.toInt.tdiv zy.toInt ≤ 2147483647) ∧ cm iv L h0 d 121 [vr 307, vi 0, vi (zx.toInt.tdiv zy.toInt), vi (-9), vi (-9), vi (-9)] s (qi fun r15 s14 => F r15 s14)) ∧ (zy.toInt = (-1) → cm iv L h0 d 121 [vr 307, vi 0, vi (w32 (-zx.toInt)), vi (-9), vi (-9), vi (-9)] s (qi fun r17 s16 => F r17 s16))) := fun e e0 => by
        have ew : wh2 6 zx.toInt zy.toInt = w32 (zx.toInt.tdiv zy.toInt) := rfl
        refine ⟨fun e1 => ⟨e0, tdiv_in rx e0 e1, val _ (tdiv_in rx e0 e1) (fun r w hw => hF' r w ?_)⟩, fun e1 => val _ (w32_in _) (fun r w hw => hF' r w ?_)⟩
        · rw [if_neg (by omega), if_neg (fun c => e0 c.2), e, ew, w32_id (tdiv_in rx e0 e1)]
          exact hw
        · rw [if_neg (by omega), if_neg (fun c => e0 c.2), e, ew, e1, show zx.toInt.tdiv (-1) = -zx.toInt from by rw [Int.tdiv_neg, Int.tdiv_one]]
          exact hw
      refine ⟨by omega, fun e7 => ⟨fun e6 => ⟨fun e4 => ⟨fun e5 => by exfalso; omega, fun e5 => w5 e5⟩, fun e4 => w4 e4⟩, fun e6 => ⟨fun e0 => ⟨fun e4 => ⟨fun e5 => w6 e6 e0, fun e5 => w5 e5⟩, fun e4 => w4 e4⟩, fun e0 => ?_⟩⟩, fun e7 => ⟨fun e => ?_, fun e => ?_⟩⟩
      · exact wp_stop hS (fun w hw => hF' _ w (by rw [if_neg e7, if_pos ⟨e6, e0⟩]; exact hw.up (by decide) (by decide))) (by decide)
      · exact tr 0 (by decide) (fun r w hw => hF' r w (by rw [if_pos e7, if_neg (by omega)]; exact hw))
      · exact tr 1 (by decide) (fun r w hw => hF' r w (by rw [if_pos e7, if_pos e]; exact hw))
    · rw [e.2] at ky1; exact q4 ky1
  · have : isW Y = true := Classical.byContradiction fun c => by rw [if_neg c] at q2; exact q2 rfl
    rw [this]; simp
end
end
section
/-! The reference works as evw says: an act is done, a node is worked. -/
section
variable {iv : List (Int × Int)} {L : Nat} {h0 : MH} {σ s : SM} {t : Term} {d n : Nat} {most B C st k : Int}
/-- a part is worked, whatever came before -/
theorem sub_ok {b e : Int} {E : Term} {F : Int → SM → Prop} {D : Nat} (hW : WCO iv L h0 σ t most B C n) (hb : b ∈ fl t) (hE : isE 26 E ∧ VN σ t E ∧ cov σ b E) (he : VR s B (s.1 52) C (s.1 54) E e) (hS : WS σ most B C n st k s) (hk : 0 ≤ k) (hD : 3 * n + 8 ≤ D) (hF : ∀ r w, WP B C 0 0 s st ((EV σ most n).1 b E st) r w → F r w) : cm iv L h0 D 126 [vr 307, vi b, vi e] s (qi F) :=
  wci_mono (hW b e st E s hb hE.1 hE.2.1 hE.2.2 he (hS.up hk)) hD hF
theorem actM_ok {b x y e : Int} {X Y E : Term} {F : Int → SM → Prop} (hX : WCX σ t most B C) (hW : WCO iv L h0 σ t most B C n) (hS : WS σ most B C n st 1 s) (hb : b ∈ fl t) (hso : 4 ≤ σ.2 9 b ∧ σ.2 9 b < 15 ∧ σ.2 9 b ≠ 8 ∧ σ.2 9 b ≠ 10) (hx : (isV X = true ∧ VN σ t X) ∧ VR s B (s.1 52) C (s.1 54) X x)
    (hy : (σ.2 9 b = 4 ∨ σ.2 9 b = 5 ∨ σ.2 9 b = 6 ∨ σ.2 9 b = 7 ∨ σ.2 9 b = 9 ∨ σ.2 9 b = 12) → (isV Y = true ∧ VN σ t Y) ∧ VR s B (s.1 52) C (s.1 54) Y y) (hE : σ.2 9 b = 11 → (isE 26 E ∧ VN σ t E ∧ cov σ b E) ∧ VR s B (s.1 52) C (s.1 54) E e) (hF : ∀ r w, WP B C 1 1 s st (actE (σ.2 9) (σ.2 10) (σ.2 14) (EV σ most n).1 b X Y E st) r w → F r w) : cm iv L h0 (3 * n + 9) 128 [vr 307, vi b, vi x, vi y, vi e] s (qi F) := by
  obtain ⟨m1, m2⟩ := hX.bc
  have hbl := hX.1.1.lt hb
  have hN := hX.1.2.1
  have h52 : B ≤ s.1 52 ∧ s.1 52 ≤ 1300 * σ.1 55 + 610 := by obtain ⟨a1, a2, a3, a4, a5⟩ := hS; omega
  have e9 : s.2 9 = σ.2 9 := hS.row (by decide)
  have e10 : s.2 10 = σ.2 10 := hS.row (by decide)
  have e14 : s.2 14 = σ.2 14 := hS.row (by decide)
  obtain ⟨kx1, kx2, kx3⟩ := VR_kind hx.1.1 hx.2
  unfold actE at hF
  -- what is left of it, or a clash
  have lft : ∀ (y' e' : Int) (Y' E' : Term), ((Y' = .null ∧ y' = -9) ∨ (Y' ≠ .null ∧ VR s B (s.1 52) C (s.1 54) Y' y')) → ((E' = .null ∧ e' = -9) ∨ (E' ≠ .null ∧ VR s B (s.1 52) C (s.1 54) E' e')) → (∀ r w, WP B C 1 1 s st (lftE b X Y' E' st) r w → F r w) → cm iv L h0 (3 * n + 8) 125 [vr 307, vi x] s (qi fun r6 s5 => ((r6 = 0 → cm iv L h0 (3 * n + 8) 124 [vr 307, vi 3, vi b] s5 (qi fun r8 s7 => F r8 s7)) ∧ (r6 ≠ 0 → cm iv L h0 (3 * n + 8) 121 [vr 307, vi 7, vi b, vi x, vi y', vi e'] s5 (qi fun r10 s9 => F r10 s9)))) := fun y' e' Y' E' hy' he' hG => by
    unfold lftE at hG
    refine isLeft_ok hx.1.1 hx.2 (by omega) ⟨fun q => ?_, fun q => ?_⟩
    · have : isW X = false := by
        cases h : isW X with
        | false => rfl
        | true => rw [h] at q; cases q
      rw [this, if_neg (by decide)] at hG
      exact wp_stop hS (fun w hw => hG _ w (hw.up (by decide) (by decide))) (by decide)
    · have : isW X = true := Classical.byContradiction fun c => by rw [if_neg c] at q; exact q rfl
      rw [if_pos this] at hG
      exact wp_lft hX hS (by decide) hbl.1 ⟨hx.1.1, hx.2⟩ hy' he' (fun w hw => hG _ w (hw.up (by decide) (by decide)))
  refine B128 ⟨by omega, fun q => ?_, fun q => ?_, fun q => ?_, fun q => ?_, fun q => ?_⟩
  · rw [e9] at q
    obtain ⟨y1, y2⟩ := hy (by omega)
    rw [if_pos q] at hF
    have h8 : 3 * n + 8 = (3 * n + 7) + 1 := by omega
    rw [h8]
    exact reck_ok hX hS (by decide) hb q ⟨hx.1.1, hx.2⟩ ⟨y1.1, y2⟩ (fun r w hw => hF r w (hw.up (by decide) (by decide)))
  · -- first, second
    rw [e9] at q ⊢
    rw [if_neg (by omega), if_neg (by omega), if_neg (by omega), if_neg (by omega)] at hF
    refine ⟨by omega, fun q3 => ?_, fun q3 => ?_⟩
    · refine lft (-9) (-9) .null .null (Or.inl ⟨rfl, rfl⟩) (Or.inl ⟨rfl, rfl⟩) (fun r w hw => hF r w ?_)
      unfold hlfE
      cases X with
      | add A A' => exact absurd kx1 q3
      | _ => exact hw
    · have hP : ∃ A A', X = .add A A' := by
        rw [q3] at kx1
        cases X with
        | add A A' => exact ⟨A, A', rfl⟩
        | sub d E => cases kx1
        | div d E => cases kx1
        | rem d E => cases kx1
        | _ => first | (cases kx1) | (cases hx.1.1)
      obtain ⟨A, A', rfl⟩ := hP
      obtain ⟨a, b', ⟨c0, c1, c2, c3, c4, c5, c6⟩, v1, v2⟩ := hx.2
      have wp : ∀ V v, VR s B (s.1 52) C (s.1 54) V v → WP B C 1 1 s st (rok st V) v s := fun V v hv =>
        ⟨FRM.rf, ⟨Int.le_refl _, by show s.1 52 ≤ s.1 52 + 2 * (st - st) + 1; omega⟩, ⟨Int.le_refl _, by show s.1 54 ≤ s.1 54 + 2 * (st - st) + 1; omega⟩, ⟨hS.2.1.1, rfl, hS.2.1.2.2.1, hS.2.1.2.2.2⟩, fun _ => hv⟩
      refine ⟨fun q4 => ?_, fun q4 => ?_⟩
      · rw [c4]
        refine hF b' s ?_
        show WP B C 1 1 s st (rok st (if σ.2 9 b = 13 then A else A')) b' s
        rw [if_neg q4]
        exact wp A' b' v2
      · rw [c3]
        refine hF a s ?_
        show WP B C 1 1 s st (rok st (if σ.2 9 b = 13 then A else A')) a s
        rw [if_pos q4]
        exact wp A a v1
  · -- use
    rw [e9] at q
    obtain ⟨y1, y2⟩ := hy (by omega)
    rw [if_neg (by omega), if_pos q] at hF
    refine ⟨by omega, fun q3 => ?_, fun q3 => ?_⟩
    · refine lft y (-9) Y .null (Or.inr ⟨isV_nn y1.1, y2⟩) (Or.inl ⟨rfl, rfl⟩) (fun r w hw => hF r w ?_)
      unfold useE
      cases X with
      | sub D E' => exact absurd kx1 q3
      | _ => exact hw
    · have hP : ∃ D E', X = .sub (.index D) E' := by
        rw [q3] at kx1
        cases X with
        | sub D E' =>
          cases D with
          | index D => exact ⟨D, E', rfl⟩
          | _ => cases hx.1.1
        | add d E => cases kx1
        | div d E => cases kx1
        | rem d E => cases kx1
        | _ => first | (cases kx1) | (cases hx.1.1)
      obtain ⟨D, E', rfl⟩ := hP
      obtain ⟨e', ⟨c0, c1, c2, c3, c4, c5, c6⟩, v1⟩ := hx.2
      obtain ⟨⟨d1, d2⟩, d3, d4, d5⟩ := hx.1.2
      have dl := hX.1.1.lt d1
      have dn := (hN D dl.1 dl.2.1).2.1 (by rw [d2]; decide)
      rw [c5, c2]
      have hF' : ∀ r w, WP B C 1 1 s st ((EV σ most n).1 (σ.2 14 (3 * D)) (upE E' (σ.2 10 D) Y) st) r w → F r w := hF
      have cb := cov_bind hX.1.1 hN (i := 0) d1 (by rw [d2]; decide) (Or.inl d2) d4 (isV_nn y1.1) d3
      rw [show (3 * (D : Int) + 0) = 3 * D by omega] at cb
      have hC := hS.2.2.2.2
      have hst := hS.2.2.1
      refine wp_bind hX hS (by decide) d4 dn v1 ⟨y1.1, y2⟩ (fun w w10 w14 hw => ?_)
      have w10 : w.2 10 = σ.2 10 := w10.trans e10
      have w14 : w.2 14 = σ.2 14 := w14.trans e14
      rw [w10, w14]
      have S2 : WS σ most B C n st 0 (ua w 53 (26 * s.1 54 + σ.2 10 D) y) := by
        exact hS.nx hw ⟨Int.le_refl _, hS.2.2.1.2⟩ ⟨rfl, rfl⟩ (by decide)
      refine ⟨by omega, by omega, by omega, by omega, by omega, by omega, sub_ok hW cb.1 ⟨upE_is 26 _ _ _ d4, VN_up _ _ _ d5 y1.1 y1.2, cb.2⟩ (hw.2.2.2.2 rfl) S2 (by decide) (Nat.le_refl _) (fun r v hv => hF' r v ((hw.tr hv).up (by decide) (by decide)))⟩
  · -- pick
    rw [e9] at q
    obtain ⟨⟨h1, h2, h3⟩, hv⟩ := hE q
    rw [if_neg (by omega), if_neg (by omega), if_pos q] at hF
    refine ⟨by omega, fun q3 => ?_, fun q3 => ?_⟩
    · refine lft (-9) e .null E (Or.inl ⟨rfl, rfl⟩) (Or.inr ⟨fun c => by rw [c] at h1; exact h1.elim, hv⟩) (fun r w hw => hF r w ?_)
      unfold pckE
      cases X with
      | arg m => exact absurd kx1 q3
      | _ => exact hw
    · have hP : ∃ m, X = .arg m := by
        rw [q3] at kx1
        cases X with
        | arg m => exact ⟨m, rfl⟩
        | sub d E => cases kx1
        | add d E => cases kx1
        | div d E => cases kx1
        | rem d E => cases kx1
        | _ => first | (cases kx1) | (cases hx.1.1)
      obtain ⟨m, rfl⟩ := hP
      obtain ⟨c0, c1, c2, c3, c4, c5, c6⟩ := hx.2
      rw [c2, e14]
      have hF' : ∀ r w, WP B C 1 1 s st ((EV σ most n).1 (σ.2 14 (3 * b + if m = 1 then 1 else 2)) E st) r w → F r w := hF
      have hp : pO (σ.2 9 b) = 3 := by rw [q]; rfl
      refine ⟨by omega, fun q4 => ⟨by omega, by omega, ?_⟩, fun q4 => ⟨by omega, by omega, ?_⟩⟩
      · have cp := cov_part hX.1.1 (i := 2) hb (by rw [hp]; decide) (by omega) h3
        rw [if_neg (by omega)] at hF'
        exact sub_ok hW cp.1 ⟨h1, h2, cp.2⟩ hv hS (by decide) (Nat.le_refl _) (fun r v hv => hF' r v (hv.up (by decide) (by decide)))
      · have cp := cov_part hX.1.1 (i := 1) hb (by rw [hp]; decide) (by omega) h3
        rw [if_pos (by omega)] at hF'
        exact sub_ok hW cp.1 ⟨h1, h2, cp.2⟩ hv hS (by decide) (Nat.le_refl _) (fun r v hv => hF' r v (hv.up (by decide) (by decide)))
  · -- a pair
    rw [e9] at q
    obtain ⟨y1, y2⟩ := hy (by omega)
    rw [if_neg (by omega), if_neg (by omega), if_neg (by omega), if_pos q] at hF
    obtain ⟨ky1, ky2, ky3⟩ := VR_kind y1.1 y2
    refine wp_new (V := .add X Y) hX hS (by decide) (fun _ _ _ => by omega) (fun w hw hkp hlo h54 => ?_) (fun w hw => hF _ w (hw.up (by decide) (by decide)))
    refine ⟨x, y, vcel hw hlo ?_, VR_k hx.2 hkp (by omega) (by omega), VR_k y2 hkp (by omega) (by omega)⟩
    rw [kx3, ky3]
    cases hX1 : hsL X <;> cases hY1 : hsL Y <;> simp [hX1, hY1] <;> omega
end
end
