/-! What the cells of the desk hold. Printed by wip/gen2/classes.py. -/
def crf : List (List Bool) := [[true, true, true, true, true, true, true, true, true, true, true, true, false, false, false, false], [true, true, true, true, true, false], [true], [true, true, true, true, false, false], [false, false, false, true, false, true, false, false, false, false, false, false, true], [true, true, false, false], [false, true, true], [true, true, true, false, false, true, false, false], [true, true, true, true, false, true], [false, false, true, true, true, true, false], [true, true, false, false, false, false, true], [true, false, true, false, true, true, false]]
def nfl (ci : Nat) : Nat := (crf.getD ci []).length
def isRf (ci y : Nat) : Bool := (crf.getD ci []).getD y false
/-- numbers and references of things, of rows; which kind of cell (0: none of these, 1 + which thing, 100 + which row), how long; the next number, slots -/
abbrev SC : Type := (Nat → Nat → Int) × (Nat → Nat → Nat) × (Nat → Int → Int) × (Nat → Int → Nat) × (Nat → Nat) × (Nat → Int) × Nat × Nat
def fI (c : SC) (a y : Nat) : Int := c.1 a y
def fR (c : SC) (a y : Nat) : Nat := c.2.1 a y
def aI (c : SC) (a : Nat) (i : Int) : Int := c.2.2.1 a i
def aR (c : SC) (a : Nat) (i : Int) : Nat := c.2.2.2.1 a i
def kl (c : SC) (a : Nat) : Nat := c.2.2.2.2.1 a
def le (c : SC) (a : Nat) : Int := c.2.2.2.2.2.1 a
def nxt (c : SC) : Nat := c.2.2.2.2.2.2.1
def slo (c : SC) : Nat := c.2.2.2.2.2.2.2
def uI (c : SC) (a y : Nat) (z : Int) : SC := (fun b k => if k = y ∧ b = a then z else c.1 b k, c.2)
def uR (c : SC) (a y : Nat) (z : Nat) : SC := (c.1, fun b k => if k = y ∧ b = a then z else c.2.1 b k, c.2.2)
def uA (c : SC) (a : Nat) (i z : Int) : SC := (c.1, c.2.1, fun b k => if b = a ∧ k = i then z else c.2.2.1 b k, c.2.2.2)
def uB (c : SC) (a : Nat) (i : Int) (z : Nat) : SC := (c.1, c.2.1, c.2.2.1, fun b k => if b = a ∧ k = i then z else c.2.2.2.1 b k, c.2.2.2.2)
/-- a new thing -/
def nO (c : SC) (ci : Nat) : SC := (fun b k => if b = nxt c then 0 else c.1 b k, fun b k => if b = nxt c then 2 else c.2.1 b k, c.2.2.1, c.2.2.2.1, fun b => if b = nxt c then ci + 1 else kl c b, c.2.2.2.2.2.1, nxt c + 1, slo c + nfl ci)
/-- a new row -/
def nA (c : SC) (t : Nat) (n : Int) : SC := (c.1, c.2.1, fun b k => if b = nxt c then 0 else c.2.2.1 b k, fun b k => if b = nxt c then 2 else c.2.2.2.1 b k, fun b => if b = nxt c then 100 + t else kl c b, fun b => if b = nxt c then n else c.2.2.2.2.2.1 b, nxt c + 1, slo c + n.toNat)
def rfq (a : Nat) : Option Nat := if a = 2 then none else some a
/-- a thing's cell -/
def obR (c : SC) (h : MH) (a ci : Nat) : Prop := ∃ fs, mget h a = some (.inr (ci, fs)) ∧ fs.length = nfl ci ∧ ∀ y, y < nfl ci → (isRf ci y = true → fs[y]? = some (emb (vr (fR c a y)))) ∧ (isRf ci y = false → fs[y]? = some (emb (vi (fI c a y))) ∧ inR (fI c a y))
/-- a row's -/
def arR (c : SC) (h : MH) (a t : Nat) : Prop := 0 ≤ le c a ∧ le c a ≤ 67108864 ∧ (t < 3 → ∃ l, mget h a = some (.inl (t, (le c a).toNat, .inl l)) ∧ ∀ j : Nat, (j : Int) < le c a → rdI l j = .int (Int32.ofInt (aI c a j)) ∧ inR (aI c a j)) ∧ (3 ≤ t → ∃ l, mget h a = some (.inl (t, (le c a).toNat, .inr l)) ∧ ∀ j : Nat, (j : Int) < le c a → rdQ l j = rfq (aR c a j))
def RepC (h0 : MH) (c : SC) (h : MH) : Prop := (h.1 = h.2.length + 64 ∧ h.1 = nxt c) ∧ (∀ a, kl c a ≠ 0 → 64 ≤ a ∧ a < nxt c ∧ ¬ (307 ≤ a ∧ a < 353)) ∧ (∀ a, 307 ≤ a → a < 353 → mget h a = mget h0 a) ∧ (∀ a ci, kl c a = ci + 1 → ci < 12 → obR c h a ci) ∧ (∀ a t, kl c a = 100 + t → t < 8 → arR c h a t)
def cc (c : SC) : Nat × Nat := (nxt c, slo c)
abbrev wk (iv : List (Int × Int)) (L : Nat) (h0 : MH) (d M pc : Nat) (ls : LV) (st : List VV) (s : SC) (Q : Option VV → SC → Prop) : Prop := wp iv L (RepC h0) cc d M pc ls st s Q
abbrev ck (iv : List (Int × Int)) (L : Nat) (h0 : MH) (d M : Nat) (as : List VV) (s : SC) (Q : Option VV → SC → Prop) : Prop := wc iv L (RepC h0) cc d M as s Q
theorem emb_r {a : Nat} (h : a ≠ 2) : emb (vr a) = .ref a := by
  unfold emb
  simp only [if_neg h]
theorem mget_push (h : MH) (hk : h.1 = h.2.length + 64) (e : ME) (b : Nat) : mget (mpush h e) b = if b = h.1 then some e else mget h b := by
  unfold mget mpush
  simp only
  by_cases h1 : b = h.1
  · rw [if_pos h1, if_pos (by omega), show h.1 + 1 - 1 - b = 0 by omega]
    rfl
  · rw [if_neg h1]
    by_cases h2 : b < h.1
    · rw [if_pos (by omega), if_pos h2, show h.1 + 1 - 1 - b = (h.1 - 1 - b) + 1 by omega]
      rfl
    · rw [if_neg (by omega), if_neg h2]
section
variable {iv : List (Int × Int)} {L : Nat} {h0 : MH} {d M pc nx x y : Nat} {ls : LV} {st : List VV} {c : SC} {Q : Option VV → SC → Prop}
/-- a cell that changes: the others stay -/
theorem repc_up {c c' : SC} {h h' : MH} {a : Nat} (hr : RepC h0 c h) (ha : kl c a ≠ 0) (hk : h'.1 = h'.2.length + 64) (h1 : h'.1 = h.1) (hg : ∀ b, b ≠ a → mget h' b = mget h b) (hkl : ∀ b, kl c' b = kl c b) (hn : nxt c' = nxt c)
    (hs : ∀ b, b ≠ a → (∀ k, fI c' b k = fI c b k) ∧ (∀ k, fR c' b k = fR c b k) ∧ (∀ k, aI c' b k = aI c b k) ∧ (∀ k, aR c' b k = aR c b k) ∧ le c' b = le c b) (hO : ∀ ci, kl c a = ci + 1 → ci < 12 → obR c' h' a ci) (hA : ∀ t, kl c a = 100 + t → t < 8 → arR c' h' a t) : RepC h0 c' h' := by
  obtain ⟨⟨r1, r2⟩, r3, r4, r5, r6⟩ := hr
  obtain ⟨a1, a2, a3⟩ := r3 a ha
  refine ⟨⟨hk, by rw [h1, hn]; exact r2⟩, fun b hb => by rw [hn]; exact r3 b (by rw [← hkl]; exact hb), fun b b1 b2 => by rw [hg b (by intro e; subst e; exact a3 ⟨b1, b2⟩)]; exact r4 b b1 b2, fun b ci hb hc => ?_, fun b t hb ht => ?_⟩
  · rw [hkl] at hb
    by_cases e : b = a
    · subst e; exact hO ci hb hc
    · obtain ⟨fs, q1, q2, q3⟩ := r5 b ci hb hc
      obtain ⟨s1, s2, -⟩ := hs b e
      exact ⟨fs, by rw [hg b e]; exact q1, q2, fun k hk => by rw [s1, s2]; exact q3 k hk⟩
  · rw [hkl] at hb
    by_cases e : b = a
    · subst e; exact hA t hb ht
    · obtain ⟨q1, q2, q3, q4⟩ := r6 b t hb ht
      obtain ⟨-, -, s3, s4, s5⟩ := hs b e
      unfold arR
      rw [s5, hg b e]
      exact ⟨q1, q2, fun h3 => by
        obtain ⟨l, p1, p2⟩ := q3 h3
        exact ⟨l, p1, fun j hj => by rw [s3]; exact p2 j hj⟩, fun h3 => by
        obtain ⟨l, p1, p2⟩ := q4 h3
        exact ⟨l, p1, fun j hj => by rw [s4]; exact p2 j hj⟩⟩
theorem c_big {h : MH} {a : Nat} (hr : RepC h0 c h) (ha : kl c a ≠ 0) : 64 ≤ a ∧ a ≠ 2 := by
  have := (hr.2.1 a ha).1
  omega
theorem c_get {n p : Nat} (he : (mG L (fun _ => 0)).1 M pc = some (.getfield n, nx, x, y)) (hx : (Nat.blt x 12 && Nat.blt y (nfl x)) = true) (hy : isRf x y = false) (hg : kl c p = x + 1) (hw : wk iv L h0 d M nx ls (vi (fI c p y) :: st) c Q) : wk iv L h0 d M pc ls (vr p :: st) c Q :=
  wp_onh (s1 := c) he (fun h2 h lc hr => by
    simp only [Bool.and_eq_true] at hx
    have hp := c_big hr (a := p) (by omega)
    obtain ⟨fs, q1, q2, q3⟩ := hr.2.2.2.1 p x hg (Nat.le_of_ble_eq_true hx.1)
    obtain ⟨q4, q5⟩ := (q3 y (Nat.le_of_ble_eq_true hx.2)).2 hy
    refine ⟨okS_c q5 (okS_t h2), h, 0, 0, ?_, hr, rfl, rfl⟩
    show s1r (emb (vr p) :: ems st) (fun a r => match mget h a with
      | some (.inr (ci, fs)) => if ci = x then (match fs[y]? with
        | some v => okk nx lc (v :: r) h
        | none => none) else none
      | _ => none) = _
    rw [emb_r hp.2]
    show (match mget h p with
      | some (.inr (ci, fs)) => if ci = x then (match fs[y]? with
        | some v => okk nx lc (v :: ems st) h
        | none => none) else none
      | _ => none) = _
    rw [q1]
    simp only [if_true, q4]
    rfl) hw
theorem c_getr {n p : Nat} (he : (mG L (fun _ => 0)).1 M pc = some (.getfield n, nx, x, y)) (hx : (Nat.blt x 12 && Nat.blt y (nfl x)) = true) (hy : isRf x y = true) (hg : kl c p = x + 1) (hw : wk iv L h0 d M nx ls (vr (fR c p y) :: st) c Q) : wk iv L h0 d M pc ls (vr p :: st) c Q :=
  wp_onh (s1 := c) he (fun h2 h lc hr => by
    simp only [Bool.and_eq_true] at hx
    have hp := c_big hr (a := p) (by omega)
    obtain ⟨fs, q1, q2, q3⟩ := hr.2.2.2.1 p x hg (Nat.le_of_ble_eq_true hx.1)
    have q4 := (q3 y (Nat.le_of_ble_eq_true hx.2)).1 hy
    refine ⟨okS_c trivial (okS_t h2), h, 0, 0, ?_, hr, rfl, rfl⟩
    show s1r (emb (vr p) :: ems st) (fun a r => match mget h a with
      | some (.inr (ci, fs)) => if ci = x then (match fs[y]? with
        | some v => okk nx lc (v :: r) h
        | none => none) else none
      | _ => none) = _
    rw [emb_r hp.2]
    show (match mget h p with
      | some (.inr (ci, fs)) => if ci = x then (match fs[y]? with
        | some v => okk nx lc (v :: ems st) h
        | none => none) else none
      | _ => none) = _
    rw [q1]
    simp only [if_true, q4]
    rfl) hw
theorem step_put {n p : Nat} {v : VV} {i : MH} {lc : ML} (hc : kl c p = x + 1) (hr : RepC h0 c i) (hx : (Nat.blt x 12 && Nat.blt y (nfl x)) = true) (hf : fitB ((mG L (fun _ => 0)).2.2.2.2.1 x y) (emb v) = true) : ∃ fs, mget i p = some (.inr (x, fs)) ∧ fs.length = nfl x ∧ stepI iv (mG L (fun _ => 0)) M pc (.putfield n) nx x y lc (ems (v :: vr p :: st)) i = some (.inl (nx, lc, ems st, mput i p (.inr (x, fs.set y (emb v))), 0, 0)) := by
  simp only [Bool.and_eq_true] at hx
  have hp := c_big hr (a := p) (by omega)
  obtain ⟨fs, q1, q2, q3⟩ := hr.2.2.2.1 p x hc (Nat.le_of_ble_eq_true hx.1)
  refine ⟨fs, q1, q2, ?_⟩
  show s1r (emb (vr p) :: ems st) (fun a r => match mget i a with
      | some (.inr (ci, fs)) => if ci = x && fitB ((mG L (fun _ => 0)).2.2.2.2.1 x y) (emb v) && decide (y < fs.length) then okk nx lc r (mput i a (.inr (ci, fs.set y (emb v)))) else none
      | _ => none) = _
  rw [emb_r hp.2]
  show (match mget i p with
      | some (.inr (ci, fs)) => if ci = x && fitB ((mG L (fun _ => 0)).2.2.2.2.1 x y) (emb v) && decide (y < fs.length) then okk nx lc (ems st) (mput i p (.inr (ci, fs.set y (emb v)))) else none
      | _ => none) = _
  rw [q1]
  simp only
  rw [if_pos (by rw [hf, q2, decide_eq_true (show y < nfl x from Nat.le_of_ble_eq_true hx.2)]; simp)]
  rfl
theorem c_putg {n p : Nat} {z : Int} (he : (mG L (fun _ => 0)).1 M pc = some (.putfield n, nx, x, y)) (hx : (Nat.blt x 12 && Nat.blt y (nfl x)) = true) (hy : isRf x y = false) (hf : fitB ((mG L (fun _ => 0)).2.2.2.2.1 x y) (emb (vi z)) = true) (hg : kl c p = x + 1) (hw : wk iv L h0 d M nx ls st (uI c p y z) Q) : wk iv L h0 d M pc ls (vi z :: vr p :: st) c Q :=
  wp_onh (s1 := uI c p y z) he (fun h2 h lc hr => by
    obtain ⟨fs, q1, q2, q3⟩ := step_put (iv := iv) (M := M) (pc := pc) (nx := nx) (st := st) (n := n) (lc := lc) hg hr hx hf
    refine ⟨okS_t (okS_t h2), _, 0, 0, q3, ?_, rfl, rfl⟩
    have hk := hr.1.1
    refine repc_up (a := p) hr (by omega) (mput_ok hk _ _) rfl (fun b hb => by rw [mget_put hk q1, if_neg hb]) (fun _ => rfl) rfl (fun b hb => ⟨fun k => ?_, fun _ => rfl, fun _ => rfl, fun _ => rfl, rfl⟩) (fun ci hci hc => ?_) (fun t ht ht8 => ?_)
    · show (if k = y ∧ b = p then z else c.1 b k) = c.1 b k
      rw [if_neg (fun e => hb e.2)]
    · obtain rfl : ci = x := by omega
      refine ⟨_, by rw [mget_put hk q1, if_pos rfl], by rw [List.length_set]; exact q2, fun k hk2 => ?_⟩
      obtain ⟨fs', p1, p2, p3⟩ := hr.2.2.2.1 p ci hg hc
      rw [q1] at p1
      cases p1
      by_cases e : k = y
      · subst e
        refine ⟨fun e => (by rw [hy] at e; cases e), fun _ => ?_⟩
        rw [List.getElem?_set_self (by omega)]
        show some (emb (vi z)) = some (emb (vi (if k = k ∧ p = p then z else c.1 p k))) ∧ inR (if k = k ∧ p = p then z else c.1 p k)
        rw [if_pos ⟨rfl, rfl⟩]
        exact ⟨rfl, okS_h h2⟩
      · rw [List.getElem?_set_ne (Ne.symm e)]
        have := p3 k hk2
        show (isRf ci k = true → fs[k]? = some (emb (vr (fR c p k)))) ∧ (isRf ci k = false → fs[k]? = some (emb (vi (if k = y ∧ p = p then z else c.1 p k))) ∧ inR (if k = y ∧ p = p then z else c.1 p k))
        rw [if_neg (fun q => e q.1)]
        exact this
    · simp only [Bool.and_eq_true] at hx
      have := Nat.le_of_ble_eq_true hx.1
      omega) hw
theorem c_put {n p : Nat} {z : Int} (he : (mG L (fun _ => 0)).1 M pc = some (.putfield n, nx, x, y)) (hx : (Nat.blt x 12 && Nat.blt y (nfl x)) = true) (hy : isRf x y = false) (hf : (mG L (fun _ => 0)).2.2.2.2.1 x y = .int) (hg : kl c p = x + 1) (hw : wk iv L h0 d M nx ls st (uI c p y z) Q) : wk iv L h0 d M pc ls (vi z :: vr p :: st) c Q := c_putg he hx hy (by rw [hf]; rfl) hg hw
theorem c_putz {n p : Nat} {z : Int} (he : (mG L (fun _ => 0)).1 M pc = some (.putfield n, nx, x, y)) (hx : (Nat.blt x 12 && Nat.blt y (nfl x)) = true) (hy : isRf x y = false) (hf : (mG L (fun _ => 0)).2.2.2.2.1 x y = .boolean) (hz : z = 0 ∨ z = 1) (hg : kl c p = x + 1) (hw : wk iv L h0 d M nx ls st (uI c p y z) Q) : wk iv L h0 d M pc ls (vi z :: vr p :: st) c Q := c_putg he hx hy (by rw [hf]; rcases hz with rfl | rfl <;> rfl) hg hw
def isRT (t : FieldType) : Bool := match t with
  | .object _ => true
  | .array _ => true
  | _ => false
theorem c_putr {n p z : Nat} (he : (mG L (fun _ => 0)).1 M pc = some (.putfield n, nx, x, y)) (hx : (Nat.blt x 12 && Nat.blt y (nfl x)) = true) (hy : isRf x y = true) (hf : isRT ((mG L (fun _ => 0)).2.2.2.2.1 x y) = true) (hg : kl c p = x + 1) (hw : wk iv L h0 d M nx ls st (uR c p y z) Q) : wk iv L h0 d M pc ls (vr z :: vr p :: st) c Q :=
  wp_onh (s1 := uR c p y z) he (fun h2 h lc hr => by
    obtain ⟨fs, q1, q2, q3⟩ := step_put (iv := iv) (M := M) (pc := pc) (nx := nx) (st := st) (n := n) (lc := lc) (v := vr z) hg hr hx (by
      cases hT : (mG L (fun _ => 0)).2.2.2.2.1 x y with
      | object s => exact isR_em z
      | array s => exact isR_em z
      | _ => rw [hT] at hf; cases hf)
    refine ⟨okS_t (okS_t h2), _, 0, 0, q3, ?_, rfl, rfl⟩
    have hk := hr.1.1
    refine repc_up (a := p) hr (by omega) (mput_ok hk _ _) rfl (fun b hb => by rw [mget_put hk q1, if_neg hb]) (fun _ => rfl) rfl (fun b hb => ⟨fun _ => rfl, fun k => ?_, fun _ => rfl, fun _ => rfl, rfl⟩) (fun ci hci hc => ?_) (fun t ht ht8 => ?_)
    · show (if k = y ∧ b = p then z else c.2.1 b k) = c.2.1 b k
      rw [if_neg (fun e => hb e.2)]
    · obtain rfl : ci = x := by omega
      refine ⟨_, by rw [mget_put hk q1, if_pos rfl], by rw [List.length_set]; exact q2, fun k hk2 => ?_⟩
      obtain ⟨fs', p1, p2, p3⟩ := hr.2.2.2.1 p ci hg hc
      rw [q1] at p1
      cases p1
      by_cases e : k = y
      · subst e
        refine ⟨fun _ => ?_, fun e => (by rw [hy] at e; cases e)⟩
        rw [List.getElem?_set_self (by omega)]
        show some (emb (vr z)) = some (emb (vr (if k = k ∧ p = p then z else c.2.1 p k)))
        rw [if_pos ⟨rfl, rfl⟩]
      · rw [List.getElem?_set_ne (Ne.symm e)]
        have := p3 k hk2
        show (isRf ci k = true → fs[k]? = some (emb (vr (if k = y ∧ p = p then z else c.2.1 p k)))) ∧ (isRf ci k = false → fs[k]? = some (emb (vi (fI c p k))) ∧ inR (fI c p k))
        rw [if_neg (fun q => e q.1)]
        exact this
    · simp only [Bool.and_eq_true] at hx
      have := Nat.le_of_ble_eq_true hx.1
      omega) hw
theorem c_ald {p : Nat} {i : Int} (he : (mG L (fun _ => 0)).1 M pc = some (.iaload, nx, x, y)) (hk : kl c p = 100) (hg : 0 ≤ i ∧ i < le c p) (hw : wk iv L h0 d M nx ls (vi (aI c p i) :: st) c Q) : wk iv L h0 d M pc ls (vi i :: vr p :: st) c Q :=
  wp_onh (s1 := c) he (fun h2 h lc hr => by
    have hp := c_big hr (a := p) (by omega)
    obtain ⟨q1, q2, q3, -⟩ := hr.2.2.2.2 p 0 hk (by decide)
    obtain ⟨l, l1, l2⟩ := q3 (by decide)
    have hi := okS_h h2
    have l4 := l2 i.toNat (by omega)
    rw [show ((i.toNat : Nat) : Int) = i by omega] at l4
    refine ⟨okS_c l4.2 (okS_t (okS_t h2)), h, 0, 0, ?_, hr, rfl, rfl⟩
    show s1r (emb (vr p) :: ems st) (fun a r => match irow iv (mG L (fun _ => 0)) h a 0 with
      | some (n, f) => if vin (Int32.ofInt i) n && isI (f (Int32.ofInt i).toNatClampNeg) then okk nx lc (f (Int32.ofInt i).toNatClampNeg :: r) h else none
      | none => none) = _
    rw [emb_r hp.2]
    show (match irow iv (mG L (fun _ => 0)) h p 0 with
      | some (n, f) => if vin (Int32.ofInt i) n && isI (f (Int32.ofInt i).toNatClampNeg) then okk nx lc (f (Int32.ofInt i).toNatClampNeg :: ems st) h else none
      | none => none) = _
    rw [show irow iv (mG L (fun _ => 0)) h p 0 = some ((le c p).toNat, rdI l) from by unfold irow; rw [if_neg (by omega), l1]; rfl]
    simp only
    rw [i_vin hi hg.1 (by omega), i_cl hi, l4.1]
    rfl) hw
theorem c_aald {p t : Nat} {i : Int} (he : (mG L (fun _ => 0)).1 M pc = some (.aaload, nx, x, y)) (hk : kl c p = 100 + t ∧ 3 ≤ t ∧ t < 8) (hg : 0 ≤ i ∧ i < le c p) (hw : wk iv L h0 d M nx ls (vr (aR c p i) :: st) c Q) : wk iv L h0 d M pc ls (vi i :: vr p :: st) c Q :=
  wp_onh (s1 := c) he (fun h2 h lc hr => by
    have hp := c_big hr (a := p) (by omega)
    obtain ⟨q1, q2, -, q3⟩ := hr.2.2.2.2 p t hk.1 hk.2.2
    obtain ⟨l, l1, l2⟩ := q3 hk.2.1
    have hi := okS_h h2
    have l4 := l2 i.toNat (by omega)
    rw [show ((i.toNat : Nat) : Int) = i by omega] at l4
    refine ⟨okS_c trivial (okS_t (okS_t h2)), h, 0, 0, ?_, hr, rfl, rfl⟩
    show s1r (emb (vr p) :: ems st) (fun a r => match mget h a with
      | some (.inl (ti, n, .inr f)) => if vin (Int32.ofInt i) n && (decide (3 ≤ ti) && decide (ti < 8)) then okk nx lc (va_rf (rdQ f (Int32.ofInt i).toNatClampNeg) :: r) h else none
      | _ => none) = _
    rw [emb_r hp.2]
    show (match mget h p with
      | some (.inl (ti, n, .inr f)) => if vin (Int32.ofInt i) n && (decide (3 ≤ ti) && decide (ti < 8)) then okk nx lc (va_rf (rdQ f (Int32.ofInt i).toNatClampNeg) :: ems st) h else none
      | _ => none) = _
    rw [l1]
    simp only
    rw [i_vin hi hg.1 (by omega), i_cl hi, l4, decide_eq_true hk.2.1, decide_eq_true hk.2.2]
    show okk nx lc (va_rf (rfq (aR c p i)) :: ems st) h = some (.inl (nx, lc, emb (vr (aR c p i)) :: ems st, h, 0, 0))
    unfold rfq emb
    by_cases e : aR c p i = 2
    · simp only [if_pos e]; rfl
    · simp only [if_neg e]; rfl) hw
theorem c_len {p : Nat} (he : (mG L (fun _ => 0)).1 M pc = some (.arraylength, nx, x, y)) (hk : 100 ≤ kl c p ∧ kl c p < 108) (hw : wk iv L h0 d M nx ls (vi (le c p) :: st) c Q) : wk iv L h0 d M pc ls (vr p :: st) c Q :=
  wp_onh (s1 := c) he (fun h2 h lc hr => by
    have hp := c_big hr (a := p) (by omega)
    obtain ⟨q1, q2, q3, q4⟩ := hr.2.2.2.2 p (kl c p - 100) (by omega) (by omega)
    have hm : ∃ f, mget h p = some (.inl (kl c p - 100, (le c p).toNat, f)) := by
      by_cases e : kl c p - 100 < 3
      · obtain ⟨l, l1, -⟩ := q3 e; exact ⟨_, l1⟩
      · obtain ⟨l, l1, -⟩ := q4 (by omega); exact ⟨_, l1⟩
    obtain ⟨f, hm⟩ := hm
    refine ⟨okS_c ⟨by omega, by omega⟩ (okS_t h2), h, 0, 0, ?_, hr, rfl, rfl⟩
    show s1r (emb (vr p) :: ems st) (fun a r => if a < 8 then (match (mG L (fun _ => 0)).2.2.1 a with
        | some (n, _) => okk nx lc (.int (Int32.ofNat n) :: r) h
        | none => none) else match mget h a with
      | some (.inl (ti, n, _)) => if ti < 8 then okk nx lc (.int (Int32.ofNat n) :: r) h else none
      | _ => none) = _
    rw [emb_r hp.2]
    show (if p < 8 then (match (mG L (fun _ => 0)).2.2.1 p with
        | some (n, _) => okk nx lc (.int (Int32.ofNat n) :: ems st) h
        | none => none) else match mget h p with
      | some (.inl (ti, n, _)) => if ti < 8 then okk nx lc (.int (Int32.ofNat n) :: ems st) h else none
      | _ => none) = _
    rw [if_neg (by omega), hm]
    simp only
    rw [if_pos (by omega)]
    show okk nx lc (.int (Int32.ofNat (le c p).toNat) :: ems st) h = some (.inl (nx, lc, .int (Int32.ofInt (le c p)) :: ems st, h, 0, 0))
    rw [← Int32.ofInt_eq_ofNat, show (((le c p).toNat : Nat) : Int) = le c p by omega]
    rfl) hw
theorem c_ast {p : Nat} {i z : Int} (he : (mG L (fun _ => 0)).1 M pc = some (.iastore, nx, x, y)) (hk : kl c p = 100) (hg : 0 ≤ i ∧ i < le c p) (hw : wk iv L h0 d M nx ls st (uA c p i z) Q) : wk iv L h0 d M pc ls (vi z :: vi i :: vr p :: st) c Q :=
  wp_onh (s1 := uA c p i z) he (fun h2 h lc hr => by
    have hp := c_big hr (a := p) (by omega)
    obtain ⟨q1, q2, q3, -⟩ := hr.2.2.2.2 p 0 hk (by decide)
    obtain ⟨l, l1, l2⟩ := q3 (by decide)
    have hi := okS_h (okS_t h2)
    have hk1 := hr.1.1
    refine ⟨okS_t (okS_t (okS_t h2)), mput h p (.inl (0, (le c p).toNat, .inl ((i.toNat, .int (Int32.ofInt z)) :: l))), 0, 0, ?_, ?_, rfl, rfl⟩
    · show s1r (emb (vr p) :: ems st) (fun a r => match mget h a with
        | some (.inl (ti, n, .inl f)) => if ti = 0 && vin (Int32.ofInt i) n then okk nx lc r (mput h a (.inl (ti, n, .inl (((Int32.ofInt i).toNatClampNeg, .int (Int32.ofInt z)) :: f)))) else none
        | _ => none) = _
      rw [emb_r hp.2]
      show (match mget h p with
        | some (.inl (ti, n, .inl f)) => if ti = 0 && vin (Int32.ofInt i) n then okk nx lc (ems st) (mput h p (.inl (ti, n, .inl (((Int32.ofInt i).toNatClampNeg, .int (Int32.ofInt z)) :: f)))) else none
        | _ => none) = _
      rw [l1]
      simp only
      rw [i_vin hi hg.1 (by omega), i_cl hi]
      rfl
    · refine repc_up (a := p) hr (by omega) (mput_ok hk1 _ _) rfl (fun b hb => by rw [mget_put hk1 l1, if_neg hb]) (fun _ => rfl) rfl (fun b hb => ⟨fun _ => rfl, fun _ => rfl, fun k => ?_, fun _ => rfl, rfl⟩) (fun ci hci hc => by omega) (fun t ht ht8 => ?_)
      · show (if b = p ∧ k = i then z else c.2.2.1 b k) = c.2.2.1 b k
        rw [if_neg (fun e => hb e.1)]
      · obtain rfl : t = 0 := by omega
        refine ⟨q1, q2, fun _ => ⟨_, by rw [mget_put hk1 l1, if_pos rfl]; rfl, fun j hj => ?_⟩, fun h => by omega⟩
        show (if j = i.toNat then Value.int (Int32.ofInt z) else rdI l j) = .int (Int32.ofInt (if p = p ∧ (j : Int) = i then z else c.2.2.1 p j)) ∧ inR (if p = p ∧ (j : Int) = i then z else c.2.2.1 p j)
        by_cases e : j = i.toNat
        · rw [if_pos e, if_pos ⟨rfl, by omega⟩]
          exact ⟨rfl, okS_h h2⟩
        · rw [if_neg e, if_neg (fun q => e (by omega))]
          exact l2 j hj) hw
theorem c_aast {p v : Nat} {i : Int} (he : (mG L (fun _ => 0)).1 M pc = some (.aastore, nx, x, y)) (h3 : (Nat.ble 3 x && Nat.blt x 8) = true) (hk : kl c p = 100 + x) (hg : 0 ≤ i ∧ i < le c p) (hv : v = 2 ∨ (kl c v = y + 1 ∧ y < 12)) (hw : wk iv L h0 d M nx ls st (uB c p i v) Q) : wk iv L h0 d M pc ls (vr v :: vi i :: vr p :: st) c Q :=
  wp_onh (s1 := uB c p i v) he (fun h2 h lc hr => by
    simp only [Bool.and_eq_true] at h3
    have hx3 := Nat.le_of_ble_eq_true h3.1
    have hx8 : x < 8 := Nat.le_of_ble_eq_true h3.2
    have hp := c_big hr (a := p) (by omega)
    obtain ⟨q1, q2, -, q3⟩ := hr.2.2.2.2 p x hk hx8
    obtain ⟨l, l1, l2⟩ := q3 hx3
    have hi := okS_h (okS_t h2)
    have hk1 := hr.1.1
    refine ⟨okS_t (okS_t (okS_t h2)), mput h p (.inl (x, (le c p).toNat, .inr ((i.toNat, rfq v) :: l))), 0, 0, ?_, ?_, rfl, rfl⟩
    · show s1i (.int (Int32.ofInt i) :: emb (vr p) :: ems st) (fun i r => s1r r fun a r => match mget h a with
        | some (.inl (ti, n, .inr f)) => if vin i n && decide (ti = x) then (match emb (vr v) with
          | .null => okk nx lc r (mput h a (.inl (ti, n, .inr ((i.toNatClampNeg, none) :: f))))
          | .ref b => (match mget h b with
            | some (.inr (ci, _)) => if ci = y then okk nx lc r (mput h a (.inl (ti, n, .inr ((i.toNatClampNeg, some b) :: f)))) else none
            | _ => none)
          | _ => none) else none
        | _ => none) = _
      rw [emb_r hp.2]
      show (match mget h p with
        | some (.inl (ti, n, .inr f)) => if vin (Int32.ofInt i) n && decide (ti = x) then (match emb (vr v) with
          | .null => okk nx lc (ems st) (mput h p (.inl (ti, n, .inr (((Int32.ofInt i).toNatClampNeg, none) :: f))))
          | .ref b => (match mget h b with
            | some (.inr (ci, _)) => if ci = y then okk nx lc (ems st) (mput h p (.inl (ti, n, .inr (((Int32.ofInt i).toNatClampNeg, some b) :: f)))) else none
            | _ => none)
          | _ => none) else none
        | _ => none) = _
      rw [l1]
      simp only
      rw [i_vin hi hg.1 (by omega), i_cl hi]
      simp only [decide_true, Bool.and_true, if_true]
      rcases hv with rfl | ⟨e1, e2⟩
      · rfl
      · have hb := c_big hr (a := v) (by omega)
        obtain ⟨fs, p1, -, -⟩ := hr.2.2.2.1 v y e1 e2
        rw [emb_r hb.2]
        simp only
        rw [p1]
        simp only [if_true]
        unfold rfq
        rw [if_neg hb.2]
        rfl
    · refine repc_up (a := p) hr (by omega) (mput_ok hk1 _ _) rfl (fun b hb => by rw [mget_put hk1 l1, if_neg hb]) (fun _ => rfl) rfl (fun b hb => ⟨fun _ => rfl, fun _ => rfl, fun _ => rfl, fun k => ?_, rfl⟩) (fun ci hci hc => by omega) (fun t ht ht8 => ?_)
      · show (if b = p ∧ k = i then v else c.2.2.2.1 b k) = c.2.2.2.1 b k
        rw [if_neg (fun e => hb e.1)]
      · obtain rfl : t = x := by omega
        refine ⟨q1, q2, fun h => by omega, fun _ => ⟨_, by rw [mget_put hk1 l1, if_pos rfl]; rfl, fun j hj => ?_⟩⟩
        show (if j = i.toNat then rfq v else rdQ l j) = rfq (if p = p ∧ (j : Int) = i then v else c.2.2.2.1 p j)
        by_cases e : j = i.toNat
        · rw [if_pos e, if_pos ⟨rfl, by omega⟩]
        · rw [if_neg e, if_neg (fun q => e (by omega))]
          exact l2 j hj) hw
/-- a cell more: the others stay -/
theorem repc_new {c c' : SC} {h : MH} {e : ME} (hr : RepC h0 c h) (h353 : 353 ≤ nxt c) (hkn : kl c' (nxt c) ≠ 0) (hkl : ∀ b, b ≠ nxt c → kl c' b = kl c b) (hn : nxt c' = nxt c + 1)
    (hs : ∀ b, b ≠ nxt c → (∀ k, fI c' b k = fI c b k) ∧ (∀ k, fR c' b k = fR c b k) ∧ (∀ k, aI c' b k = aI c b k) ∧ (∀ k, aR c' b k = aR c b k) ∧ le c' b = le c b) (hO : ∀ ci, kl c' (nxt c) = ci + 1 → ci < 12 → obR c' (mpush h e) (nxt c) ci) (hA : ∀ t, kl c' (nxt c) = 100 + t → t < 8 → arR c' (mpush h e) (nxt c) t) : RepC h0 c' (mpush h e) := by
  obtain ⟨⟨r1, r2⟩, r3, r4, r5, r6⟩ := hr
  have hg : ∀ b, b ≠ nxt c → mget (mpush h e) b = mget h b := fun b hb => by rw [mget_push h r1, if_neg (by omega)]
  refine ⟨⟨by show h.1 + 1 = (e :: h.2).length + 64; rw [List.length_cons]; omega, by show h.1 + 1 = _; omega⟩, fun b hb => ?_, fun b b1 b2 => by rw [hg b (by omega)]; exact r4 b b1 b2, fun b ci hb hc => ?_, fun b t hb ht => ?_⟩
  · by_cases e1 : b = nxt c
    · omega
    · rw [hkl b e1] at hb
      have := r3 b hb
      omega
  · by_cases e1 : b = nxt c
    · subst e1; exact hO ci hb hc
    · rw [hkl b e1] at hb
      obtain ⟨fs, q1, q2, q3⟩ := r5 b ci hb hc
      obtain ⟨s1, s2, -⟩ := hs b e1
      exact ⟨fs, by rw [hg b e1]; exact q1, q2, fun k hk => by rw [s1, s2]; exact q3 k hk⟩
  · by_cases e1 : b = nxt c
    · subst e1; exact hA t hb ht
    · rw [hkl b e1] at hb
      obtain ⟨q1, q2, q3, q4⟩ := r6 b t hb ht
      obtain ⟨-, -, s3, s4, s5⟩ := hs b e1
      unfold arR
      rw [s5, hg b e1]
      exact ⟨q1, q2, fun h3 => by
        obtain ⟨l, p1, p2⟩ := q3 h3
        exact ⟨l, p1, fun j hj => by rw [s3]; exact p2 j hj⟩, fun h3 => by
        obtain ⟨l, p1, p2⟩ := q4 h3
        exact ⟨l, p1, fun j hj => by rw [s4]; exact p2 j hj⟩⟩
theorem bls_ok : ∀ ci, ci < 12 → (bls.getD ci []).length = nfl ci ∧ ∀ y, y < nfl ci → (bls.getD ci [])[y]? = some (if isRf ci y then Value.null else .int 0) := by
  intro ci h
  have h1 : (List.range 12).all (fun ci => decide ((bls.getD ci []).length = nfl ci) && (List.range (nfl ci)).all (fun y => decide ((bls.getD ci [])[y]? = some (if isRf ci y then Value.null else .int 0)))) = true := by decide +kernel
  have h2 := List.all_eq_true.mp h1 ci (List.mem_range.mpr h)
  simp only [Bool.and_eq_true, decide_eq_true_eq] at h2
  exact ⟨h2.1, fun y hy => of_decide_eq_true (List.all_eq_true.mp h2.2 y (List.mem_range.mpr hy))⟩
theorem c_new {n : Nat} (he : (mG L (fun _ => 0)).1 M pc = some (.new n, nx, x, y)) (hx : Nat.blt x 12 = true) (hn : 353 ≤ nxt c) (hw : wk iv L h0 d M nx ls (vr (nxt c) :: st) (nO c x) Q) : wk iv L h0 d M pc ls st c Q :=
  wp_onh (s1 := nO c x) he (fun h2 h lc hr => by
    have hx12 : x < 12 := Nat.le_of_ble_eq_true hx
    obtain ⟨b1, b2⟩ := bls_ok x hx12
    have hk1 := hr.1
    refine ⟨okS_c trivial h2, mpush h (.inr (x, bls.getD x [])), 1, (bls.getD x []).length, ?_, ?_, rfl, by show slo c + _ = slo c + nfl x; rw [b1]⟩
    · show some (Sum.inl (nx, lc, .ref h.1 :: ems st, mpush h (.inr (x, bls.getD x [])), 1, (bls.getD x []).length)) = some (.inl (nx, lc, emb (vr (nxt c)) :: ems st, _, _, _))
      rw [emb_r (by omega), hk1.2]
    · refine repc_new hr hn (by show (if nxt c = nxt c then x + 1 else kl c (nxt c)) ≠ 0; rw [if_pos rfl]; omega) (fun b hb => by show (if b = nxt c then x + 1 else kl c b) = _; rw [if_neg hb]) rfl (fun b hb => ⟨fun k => by show (if b = nxt c then (0 : Int) else c.1 b k) = c.1 b k; rw [if_neg hb], fun k => by show (if b = nxt c then 2 else c.2.1 b k) = c.2.1 b k; rw [if_neg hb], fun _ => rfl, fun _ => rfl, rfl⟩) (fun ci hci hc => ?_) (fun t ht ht8 => ?_)
      · have : (if nxt c = nxt c then x + 1 else kl c (nxt c)) = ci + 1 := hci
        rw [if_pos rfl] at this
        obtain rfl : ci = x := by omega
        refine ⟨bls.getD ci [], by rw [mget_push h hk1.1, if_pos hk1.2.symm], b1, fun k hk => ?_⟩
        have hb2 := b2 k hk
        refine ⟨fun e => ?_, fun e => ?_⟩
        · rw [hb2, e]
          show some Value.null = some (emb (vr (if nxt c = nxt c then 2 else c.2.1 (nxt c) k)))
          rw [if_pos rfl]
          rfl
        · rw [hb2, e]
          show some (Value.int 0) = some (emb (vi (if nxt c = nxt c then 0 else c.1 (nxt c) k))) ∧ inR (if nxt c = nxt c then 0 else c.1 (nxt c) k)
          rw [if_pos rfl]
          exact ⟨rfl, by unfold inR; omega⟩
      · have : (if nxt c = nxt c then x + 1 else kl c (nxt c)) = 100 + t := ht
        rw [if_pos rfl] at this
        omega) hw
theorem c_newarr {i : Instr} {t : Nat} {n : Int} {f : MA} (ht : t < 8) (hf : (t < 3 ∧ f = .inl []) ∨ (3 ≤ t ∧ f = .inr [])) (he : (mG L (fun _ => 0)).1 M pc = some (i, nx, x, y)) (hi : ∀ (h : MH) (lc : ML), stepI iv (mG L (fun _ => 0)) M pc i nx x y lc (ems (vi n :: st)) h = if decide (0 ≤ Int32.ofInt n) && decide ((Int32.ofInt n).toNatClampNeg ≤ 67108864) then some (.inl (nx, lc, .ref h.1 :: ems st, mpush h (.inl (t, (Int32.ofInt n).toNatClampNeg, f)), 1, (Int32.ofInt n).toNatClampNeg)) else none) (hg : 0 ≤ n ∧ n ≤ 67108864) (hn : 353 ≤ nxt c) (hw : wk iv L h0 d M nx ls (vr (nxt c) :: st) (nA c t n) Q) : wk iv L h0 d M pc ls (vi n :: st) c Q :=
  wp_onh (s1 := nA c t n) he (fun h2 h lc hr => by
    have hnR := okS_h h2
    have hk1 := hr.1
    refine ⟨okS_c trivial (okS_t h2), mpush h (.inl (t, n.toNat, f)), 1, n.toNat, ?_, ?_, rfl, rfl⟩
    · rw [hi, i_cl hnR, if_pos (by simp only [Bool.and_eq_true, decide_eq_true_eq]; rw [Int32.le_iff_toInt_le, i_to hnR]; exact ⟨hg.1, by omega⟩)]
      show _ = some (Sum.inl (nx, lc, emb (vr (nxt c)) :: ems st, _, _, _))
      rw [emb_r (by omega), hk1.2]
    · refine repc_new hr hn (by show (if nxt c = nxt c then 100 + t else kl c (nxt c)) ≠ 0; rw [if_pos rfl]; omega) (fun b hb => by show (if b = nxt c then 100 + t else kl c b) = _; rw [if_neg hb]) rfl (fun b hb => ⟨fun _ => rfl, fun _ => rfl, fun k => by show (if b = nxt c then (0 : Int) else c.2.2.1 b k) = c.2.2.1 b k; rw [if_neg hb], fun k => by show (if b = nxt c then 2 else c.2.2.2.1 b k) = c.2.2.2.1 b k; rw [if_neg hb], by show (if b = nxt c then n else le c b) = le c b; rw [if_neg hb]⟩) (fun ci hci hc => ?_) (fun t1 ht1 ht8 => ?_)
      · have : (if nxt c = nxt c then 100 + t else kl c (nxt c)) = ci + 1 := hci
        rw [if_pos rfl] at this
        omega
      · have : (if nxt c = nxt c then 100 + t else kl c (nxt c)) = 100 + t1 := ht1
        rw [if_pos rfl] at this
        obtain rfl : t1 = t := by omega
        have hl : le (nA c t1 n) (nxt c) = n := by show (if nxt c = nxt c then n else _) = n; rw [if_pos rfl]
        unfold arR
        rw [hl, mget_push h hk1.1, if_pos hk1.2.symm]
        refine ⟨hg.1, hg.2, fun h3 => ?_, fun h3 => ?_⟩
        · rcases hf with ⟨-, rfl⟩ | ⟨h4, -⟩
          · refine ⟨[], rfl, fun j hj => ?_⟩
            show Value.int 0 = .int (Int32.ofInt (if nxt c = nxt c then 0 else c.2.2.1 (nxt c) j)) ∧ inR (if nxt c = nxt c then 0 else c.2.2.1 (nxt c) j)
            rw [if_pos rfl]
            exact ⟨rfl, by unfold inR; omega⟩
          · omega
        · rcases hf with ⟨h4, -⟩ | ⟨-, rfl⟩
          · omega
          · refine ⟨[], rfl, fun j hj => ?_⟩
            show (none : Option Nat) = rfq (if nxt c = nxt c then 2 else c.2.2.2.1 (nxt c) j)
            rw [if_pos rfl]
            rfl) hw
theorem c_newa {a : ArrayType} {n : Int} (he : (mG L (fun _ => 0)).1 M pc = some (.newarray a, nx, x, y)) (hx : Nat.blt x 3 = true) (hg : 0 ≤ n ∧ n ≤ 67108864) (hn : 353 ≤ nxt c) (hw : wk iv L h0 d M nx ls (vr (nxt c) :: st) (nA c x n) Q) : wk iv L h0 d M pc ls (vi n :: st) c Q :=
  c_newarr (f := .inl []) (by have : x < 3 := Nat.le_of_ble_eq_true hx; omega) (Or.inl ⟨Nat.le_of_ble_eq_true hx, rfl⟩) he (fun _ _ => rfl) hg hn hw
theorem c_anewa {k : Nat} {n : Int} (he : (mG L (fun _ => 0)).1 M pc = some (.anewarray k, nx, x, y)) (hx : (Nat.ble 3 x && Nat.blt x 8) = true) (hg : 0 ≤ n ∧ n ≤ 67108864) (hn : 353 ≤ nxt c) (hw : wk iv L h0 d M nx ls (vr (nxt c) :: st) (nA c x n) Q) : wk iv L h0 d M pc ls (vi n :: st) c Q := by
  simp only [Bool.and_eq_true] at hx
  exact c_newarr (f := .inr []) (Nat.le_of_ble_eq_true hx.2) (Or.inr ⟨Nat.le_of_ble_eq_true hx.1, rfl⟩) he (fun _ _ => rfl) hg hn hw
theorem c_null {n : Int} {p : Nat} (he : (mG L (fun _ => 0)).1 M pc = some (.ifnull n, nx, x, y)) (h1 : p = 2 → wk iv L h0 d M x ls st c Q) (h2 : p ≠ 2 → wk iv L h0 d M nx ls st c Q) : wk iv L h0 d M pc ls (vr p :: st) c Q := by
  by_cases e : p = 2
  · exact wp_os he (fun _ g => ⟨okS_t g, fun h lc _ => by subst e; rfl⟩) (h1 e)
  · refine wp_os he (fun _ g => ⟨okS_t g, fun h lc _ => ?_⟩) (h2 e)
    show s1 (emb (vr p) :: ems st) (fun v r => match v with
      | .null => okk x lc r h
      | .ref _ => okk nx lc r h
      | _ => none) = _
    rw [emb_r e]
    rfl
theorem c_nonnull {n : Int} {p : Nat} (he : (mG L (fun _ => 0)).1 M pc = some (.ifnonnull n, nx, x, y)) (h1 : p ≠ 2 → wk iv L h0 d M x ls st c Q) (h2 : p = 2 → wk iv L h0 d M nx ls st c Q) : wk iv L h0 d M pc ls (vr p :: st) c Q := by
  by_cases e : p = 2
  · exact wp_os he (fun _ g => ⟨okS_t g, fun h lc _ => by subst e; rfl⟩) (h2 e)
  · refine wp_os he (fun _ g => ⟨okS_t g, fun h lc _ => ?_⟩) (h1 e)
    show s1 (emb (vr p) :: ems st) (fun v r => match v with
      | .null => okk nx lc r h
      | .ref _ => okk x lc r h
      | _ => none) = _
    rw [emb_r e]
    rfl
theorem rfo_em (p : Nat) : rfo (emb (vr p)) = some (rfq p) := by
  unfold emb rfq
  by_cases e : p = 2
  · simp only [if_pos e]; rfl
  · simp only [if_neg e]; rfl
theorem rfq_big {p : Nat} (h : p = 2 ∨ 64 ≤ p) : big (rfq p) = true := by
  unfold rfq
  rcases h with rfl | h
  · rfl
  · rw [if_neg (by omega)]
    exact decide_eq_true h
theorem rfq_inj {p q : Nat} : rfq p = rfq q ↔ p = q := by
  unfold rfq
  constructor
  · intro h
    split at h <;> split at h
    · omega
    · cases h
    · cases h
    · cases h; rfl
  · intro h; rw [h]
theorem c_acmp_eq {n : Int} {p q : Nat} (he : (mG L (fun _ => 0)).1 M pc = some (.if_acmp .eq n, nx, x, y)) (hp : p = 2 ∨ 64 ≤ p) (hq : q = 2 ∨ 64 ≤ q) (h1 : p = q → wk iv L h0 d M x ls st c Q) (h2 : p ≠ q → wk iv L h0 d M nx ls st c Q) : wk iv L h0 d M pc ls (vr q :: vr p :: st) c Q := by
  have key : ∀ (h : MH) (lc : ML), stepI iv (mG L (fun _ => 0)) M pc (.if_acmp .eq n) nx x y lc (ems (vr q :: vr p :: st)) h = okk (if rfq p = rfq q then x else nx) lc (ems st) h := fun h lc => by
    show (match rfo (emb (vr q)), rfo (emb (vr p)) with
      | some a, some b => if big a && big b then okk (if b = a then x else nx) lc (ems st) h else none
      | _, _ => none) = _
    rw [rfo_em, rfo_em]
    simp only
    rw [rfq_big hp, rfq_big hq]
    rfl
  by_cases e : p = q
  · exact wp_os he (fun _ g => ⟨okS_t (okS_t g), fun h lc _ => by rw [key, if_pos (rfq_inj.mpr e)]; rfl⟩) (h1 e)
  · exact wp_os he (fun _ g => ⟨okS_t (okS_t g), fun h lc _ => by rw [key, if_neg (fun q => e (rfq_inj.mp q))]; rfl⟩) (h2 e)
theorem c_acmp_ne {n : Int} {p q : Nat} (he : (mG L (fun _ => 0)).1 M pc = some (.if_acmp .ne n, nx, x, y)) (hp : p = 2 ∨ 64 ≤ p) (hq : q = 2 ∨ 64 ≤ q) (h1 : p ≠ q → wk iv L h0 d M x ls st c Q) (h2 : p = q → wk iv L h0 d M nx ls st c Q) : wk iv L h0 d M pc ls (vr q :: vr p :: st) c Q := by
  have key : ∀ (h : MH) (lc : ML), stepI iv (mG L (fun _ => 0)) M pc (.if_acmp .ne n) nx x y lc (ems (vr q :: vr p :: st)) h = okk (if rfq p = rfq q then nx else x) lc (ems st) h := fun h lc => by
    show (match rfo (emb (vr q)), rfo (emb (vr p)) with
      | some a, some b => if big a && big b then okk (if b = a then nx else x) lc (ems st) h else none
      | _, _ => none) = _
    rw [rfo_em, rfo_em]
    simp only
    rw [rfq_big hp, rfq_big hq]
    rfl
  by_cases e : p = q
  · exact wp_os he (fun _ g => ⟨okS_t (okS_t g), fun h lc _ => by rw [key, if_pos (rfq_inj.mpr e)]; rfl⟩) (h2 e)
  · exact wp_os he (fun _ g => ⟨okS_t (okS_t g), fun h lc _ => by rw [key, if_neg (fun q => e (rfq_inj.mp q))]; rfl⟩) (h1 e)
/-- calls -/
theorem c_virt {n p : Nat} {as r : List VV} (he : (mG L (fun _ => 0)).1 M pc = some (.invokevirtual n, nx, x, y)) (hx : (Nat.beq x 9001 || Nat.beq x 9002) = false) (hc : Nat.blt ((mG L (fun _ => 0)).2.2.2.2.2.2 x) 12 = true) (hs : st = as.reverse ++ (vr p :: r)) (hy : y = as.length) (hm : (Nat.ble (r.map cat2).sum 8 && (Nat.ble ((vr p :: as).map cat2).sum ((mG L (fun _ => 0)).2.1 x) && Nat.ble ((mG L (fun _ => 0)).2.1 x) 21)) = true) (hg : kl c p = (mG L (fun _ => 0)).2.2.2.2.2.2 x + 1)
    (hw : ck iv L h0 d x (vr p :: as) c (fun v s' => wk iv L h0 (d + 1) M nx ls (v.toList ++ r) s' Q)) : wk iv L h0 (d + 1) M pc ls st c Q := by
  subst hs
  subst hy
  refine wp_call he (fun h lc hr => ?_) (fun h => ⟨fun w hw => ?_, fun w hw => h w (List.mem_append_right _ (List.mem_cons_of_mem _ hw))⟩) hm hw
  · have hp := c_big hr (a := p) (by omega)
    obtain ⟨fs, g1, -, -⟩ := hr.2.2.2.1 p _ hg (Nat.le_of_ble_eq_true hc)
    have h1 : ¬ x = 9001 := by intro h; rw [h] at hx; cases hx
    have h2 : ¬ x = 9002 := by intro h; rw [h] at hx; cases hx
    show (if x = 9001 then _ else if x = 9002 then _ else match (ems (as.reverse ++ (vr p :: r))).drop as.length with
      | .ref b :: r1 => (match mget h b with
        | some (.inr (ci, _)) => if ci = (mG L (fun _ => 0)).2.2.2.2.2.2 x then some (Sum.inr (Sum.inl (x, Value.ref b :: ((ems (as.reverse ++ (vr p :: r))).take as.length).reverse, r1, nx))) else none
        | _ => none)
      | _ => none) = _
    have hl : (ems as.reverse).length = as.length := by simp [ems]
    rw [if_neg h1, if_neg h2, show ems (as.reverse ++ (vr p :: r)) = ems as.reverse ++ (Value.ref p :: ems r) from by rw [← emb_r hp.2]; exact List.map_append, ← hl, List.take_left, List.drop_left]
    simp only
    rw [g1]
    simp only [if_true]
    simp [ems, emb_r hp.2]
  · rcases List.mem_cons.mp hw with rfl | hw
    · trivial
    · exact h w (List.mem_append_left _ (List.mem_reverse.mpr hw))
theorem c_spec {n p : Nat} {as r : List VV} (he : (mG L (fun _ => 0)).1 M pc = some (.invokespecial n, nx, x, y)) (hx : Nat.beq x 0 = false) (hs : st = as.reverse ++ (vr p :: r)) (hy : y = as.length) (hm : (Nat.ble (r.map cat2).sum 8 && (Nat.ble ((vr p :: as).map cat2).sum ((mG L (fun _ => 0)).2.1 x) && Nat.ble ((mG L (fun _ => 0)).2.1 x) 21)) = true) (hp : p ≠ 2)
    (hw : ck iv L h0 d x (vr p :: as) c (fun v s' => wk iv L h0 (d + 1) M nx ls (v.toList ++ r) s' Q)) : wk iv L h0 (d + 1) M pc ls st c Q := by
  subst hs
  subst hy
  refine wp_call he (fun h lc hr => ?_) (fun h => ⟨fun w hw => ?_, fun w hw => h w (List.mem_append_right _ (List.mem_cons_of_mem _ hw))⟩) hm hw
  · have h1 : ¬ x = 0 := by intro h; rw [h] at hx; cases hx
    show (if x = 0 then _ else match (ems (as.reverse ++ (vr p :: r))).drop as.length with
      | .ref b :: r1 => some (Sum.inr (Sum.inl (x, Value.ref b :: ((ems (as.reverse ++ (vr p :: r))).take as.length).reverse, r1, nx)))
      | _ => none) = _
    have hl : (ems as.reverse).length = as.length := by simp [ems]
    rw [if_neg h1, show ems (as.reverse ++ (vr p :: r)) = ems as.reverse ++ (Value.ref p :: ems r) from by rw [← emb_r hp]; exact List.map_append, ← hl, List.take_left, List.drop_left]
    simp [ems, emb_r hp]
  · rcases List.mem_cons.mp hw with rfl | hw
    · trivial
    · exact h w (List.mem_append_left _ (List.mem_reverse.mpr hw))
theorem c_oinit {n p : Nat} (he : (mG L (fun _ => 0)).1 M pc = some (.invokespecial n, nx, 0, y)) (h8 : Nat.ble (st.map cat2).sum 8 = true) (hp : p ≠ 2) (hw : wk iv L h0 d M nx ls st c Q) : wk iv L h0 d M pc ls (vr p :: st) c Q :=
  wp_os he (fun h1 h2 => ⟨okS_t h2, fun h lc _ => by
    show s1r (emb (vr p) :: ems st) (fun _ r => if mwid r ≤ 8 then okk nx lc r h else none) = _
    rw [emb_r hp]
    show (if mwid (ems st) ≤ 8 then okk nx lc (ems st) h else none) = _
    rw [mwid_em, if_pos (Nat.le_of_ble_eq_true h8)]
    rfl⟩) hw
theorem c_min {n : Nat} {a b : Int} (he : (mG L (fun _ => 0)).1 M pc = some (.invokestatic n, nx, 9000, y)) (h8 : Nat.ble (st.map cat2).sum 8 = true) (hw : wk iv L h0 d M nx ls (vi (if b < a then b else a) :: st) c Q) : wk iv L h0 d M pc ls (vi b :: vi a :: st) c Q :=
  wp_os he (fun h1 h2 => ⟨okS_c (by
    have ha := okS_h h2
    have hb := okS_h (okS_t h2)
    by_cases e : b < a
    · rw [if_pos e]; exact ha
    · rw [if_neg e]; exact hb) (okS_t (okS_t h2)), fun h lc _ => by
    have hb := okS_h h2
    have ha := okS_h (okS_t h2)
    show (if mwid (ems st) ≤ 8 then okk nx lc (.int (if Int32.ofInt b < Int32.ofInt a then Int32.ofInt b else Int32.ofInt a) :: ems st) h else none) = _
    rw [mwid_em, if_pos (Nat.le_of_ble_eq_true h8)]
    show okk nx lc _ h = some (.inl (nx, lc, .int (Int32.ofInt (if b < a then b else a)) :: ems st, h, 0, 0))
    simp only [Int32.lt_iff_toInt_lt, i_to ha, i_to hb]
    by_cases e : b < a
    · simp only [if_pos e]; rfl
    · simp only [if_neg e]; rfl⟩) hw
/-- how many parts a sort has -/
def pO (s : Int) : Int := (partsA.getD s.toNat 0).toInt
theorem pO_in (s : Int) : 0 ≤ pO s ∧ pO s ≤ 3 := by
  unfold pO
  have h1 : ∀ r ∈ partsA, 0 ≤ r.toInt ∧ r.toInt ≤ 3 := by decide
  rw [List.getD_eq_getElem?_getD]
  cases h : partsA[s.toNat]? with
  | none => decide
  | some r => exact h1 r (List.mem_of_getElem? h)
theorem w_pald {S : Type} {Rp : S → MH → Prop} {cs : S → Nat × Nat} {s : S} {Q : Option VV → S → Prop} {i : Int} (he : (mG L (fun _ => 0)).1 M pc = some (.iaload, nx, x, y)) (hg : 0 ≤ i ∧ i < 16) (hw : wp iv L Rp cs d M nx ls (vi (pO i) :: st) s Q) : wp iv L Rp cs d M pc ls (vi i :: vr 1 :: st) s Q :=
  wp_os he (fun h1 h2 => ⟨okS_c (by have := pO_in i; show inR _; unfold inR; omega) (okS_t (okS_t h2)), fun h lc _ => by
    have hi := okS_h h2
    show (if vin (Int32.ofInt i) 16 && true then okk nx lc (.int (partsA.getD (Int32.ofInt i).toNatClampNeg 0) :: ems st) h else none) = _
    rw [i_vin hi hg.1 (by omega), i_cl hi]
    show okk nx lc (.int (partsA.getD i.toNat 0) :: ems st) h = some (.inl (nx, lc, .int (Int32.ofInt (pO i)) :: ems st, h, 0, 0))
    unfold pO
    rw [Int32.ofInt_toInt]
    rfl⟩) hw
theorem w_plen {S : Type} {Rp : S → MH → Prop} {cs : S → Nat × Nat} {s : S} {Q : Option VV → S → Prop} (he : (mG L (fun _ => 0)).1 M pc = some (.arraylength, nx, x, y)) (hw : wp iv L Rp cs d M nx ls (vi 16 :: st) s Q) : wp iv L Rp cs d M pc ls (vr 1 :: st) s Q :=
  wp_os he (fun h1 h2 => ⟨okS_c (by show inR _; unfold inR; omega) (okS_t h2), fun h lc _ => rfl⟩) hw
end
