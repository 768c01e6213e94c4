section
/-! Values of the desk as trees: value cells (kl 10: 0 what it is, 1 number, 2 node, 3 and 4 what it is of, 5 what is seen, 6 whether something is left), seen cells (kl 7: 0 letter, 1 what it is, 2 what was seen ahead). -/
/-- what is seen, as a list: the nearest first -/
def CHN (c : SC) (P : Nat → Prop) : Nat → List (Int × Nat) → Prop
  | g, [] => g = 2
  | g, q :: r => (P g ∧ kl c g = 7) ∧ fI c g 0 = q.1 ∧ fR c g 1 = q.2 ∧ q.2 ≠ 2 ∧ CHN c P (fR c g 2) r
def chf (l : List (Int × Nat)) (x : Int) : Nat := match l with
  | [] => 2
  | q :: r => if q.1 = x then q.2 else chf r x
/-- a value cell with what is in it -/
def cll (c : SC) (P : Nat → Prop) (a : Nat) (k : Int) : Prop := (P a ∧ kl c a = 10) ∧ fI c a 0 = k
/-- the cell, or the list of what is seen, stands for the tree -/
def DV (A : Int → Nat) (c : SC) (P : Nat → Prop) : Term → Nat → List (Int × Nat) → Prop
  | .null, _, _ => True
  | .mul r y, _, l => DV A c P r 2 l ∧ (chf l (mlen r) = 2 ↔ y = .null) ∧ (y ≠ .null → DV A c P y (chf l (mlen r)) [])
  | .int n, a, _ => cll c P a 0 ∧ fI c a 1 = n.toInt ∧ fI c a 6 = 0
  | .arg n, a, _ => cll c P a 1 ∧ fI c a 1 = n ∧ fI c a 6 = 0
  | .sub (.index b) E, a, _ => cll c P a 2 ∧ fR c a 2 = A b ∧ fI c a 6 = 0 ∧ ∃ l, CHN c P (fR c a 5) l ∧ DV A c P E 2 l
  | .add x y, a, _ => cll c P a 3 ∧ fI c a 6 = (if hsL (.add x y) then 1 else 0) ∧ DV A c P x (fR c a 3) [] ∧ DV A c P y (fR c a 4) []
  | .div (.index b) E, a, _ => cll c P a 4 ∧ fR c a 2 = A b ∧ fI c a 6 = 1 ∧ ∃ l, CHN c P (fR c a 5) l ∧ DV A c P E 2 l
  | .index n, a, _ => cll c P a 5 ∧ fI c a 1 = n ∧ fI c a 6 = 1
  | .length x, a, _ => cll c P a 6 ∧ fI c a 6 = 1 ∧ DV A c P x (fR c a 3) []
  | .rem (.index b) (.elem x (.elem y E)), a, _ => cll c P a 7 ∧ fR c a 2 = A b ∧ fI c a 6 = 1 ∧ DV A c P x (fR c a 3) [] ∧ (y = .null ↔ fR c a 4 = 2) ∧ (y ≠ .null → DV A c P y (fR c a 4) []) ∧ ((E = .null ∧ fR c a 5 = 2) ∨ (E ≠ .null ∧ ∃ l, CHN c P (fR c a 5) l ∧ DV A c P E 2 l))
  | _, _, _ => False
/-- cells that stay -/
def STY (P Q : Nat → Prop) (c e : SC) : Prop := ∀ a, P a → Q a ∧ (kl c a = 10 ∨ kl c a = 7 → kl e a = kl c a ∧ (∀ y, y < 7 → fI e a y = fI c a y ∧ fR e a y = fR c a y))
theorem CHN.up {P Q : Nat → Prop} {c e : SC} (h : STY P Q c e) : ∀ (l : List (Int × Nat)) (g : Nat), CHN c P g l → CHN e Q g l := by
  intro l
  induction l with
  | nil => intro g hg; exact hg
  | cons q r ih =>
    intro g hg
    obtain ⟨⟨h1, h2⟩, h3, h4, h5, h6⟩ := hg
    obtain ⟨q1, q2⟩ := h g h1
    obtain ⟨k1, k2⟩ := q2 (Or.inr h2)
    refine ⟨⟨q1, k1.trans h2⟩, (k2 0 (by decide)).1.trans h3, (k2 1 (by decide)).2.trans h4, h5, ?_⟩
    rw [(k2 2 (by decide)).2]
    exact ih _ h6
theorem cll.up {P Q : Nat → Prop} {c e : SC} (h : STY P Q c e) {a : Nat} {k : Int} (hc : cll c P a k) : cll e Q a k ∧ ∀ y, y < 7 → fI e a y = fI c a y ∧ fR e a y = fR c a y := by
  obtain ⟨⟨h1, h2⟩, h3⟩ := hc
  obtain ⟨q1, q2⟩ := h a h1
  obtain ⟨k1, k2⟩ := q2 (Or.inl h2)
  exact ⟨⟨⟨q1, k1.trans h2⟩, (k2 0 (by decide)).1.trans h3⟩, k2⟩
/-- what a value is, stays with its cells -/
theorem DV_up {A : Int → Nat} {P Q : Nat → Prop} {c e : SC} (h : STY P Q c e) : ∀ (n : Nat) (V : Term) (a : Nat) (l : List (Int × Nat)), SizeOf.sizeOf V < n → DV A c P V a l → DV A e Q V a l := by
  intro n
  induction n with
  | zero => intro V a l h; omega
  | succ n ih =>
    intro V a l hn hv
    cases V with
    | null => exact trivial
    | int z =>
      obtain ⟨h1, h2, h3⟩ := hv
      obtain ⟨c1, c2⟩ := cll.up h h1
      exact ⟨c1, (c2 1 (by decide)).1.trans h2, (c2 6 (by decide)).1.trans h3⟩
    | arg z =>
      obtain ⟨h1, h2, h3⟩ := hv
      obtain ⟨c1, c2⟩ := cll.up h h1
      exact ⟨c1, (c2 1 (by decide)).1.trans h2, (c2 6 (by decide)).1.trans h3⟩
    | index z =>
      obtain ⟨h1, h2, h3⟩ := hv
      obtain ⟨c1, c2⟩ := cll.up h h1
      exact ⟨c1, (c2 1 (by decide)).1.trans h2, (c2 6 (by decide)).1.trans h3⟩
    | mul r y =>
      obtain ⟨h1, h2, h3⟩ := hv
      simp only [Term.mul.sizeOf_spec] at hn
      exact ⟨ih r _ _ (by omega) h1, h2, fun q => ih y _ _ (by omega) (h3 q)⟩
    | add x y =>
      obtain ⟨h1, h2, h3, h4⟩ := hv
      obtain ⟨c1, c2⟩ := cll.up h h1
      simp only [Term.add.sizeOf_spec] at hn
      refine ⟨c1, (c2 6 (by decide)).1.trans h2, ?_, ?_⟩
      · rw [(c2 3 (by decide)).2]; exact ih x _ _ (by omega) h3
      · rw [(c2 4 (by decide)).2]; exact ih y _ _ (by omega) h4
    | length x =>
      obtain ⟨h1, h2, h3⟩ := hv
      obtain ⟨c1, c2⟩ := cll.up h h1
      simp only [Term.length.sizeOf_spec] at hn
      refine ⟨c1, (c2 6 (by decide)).1.trans h2, ?_⟩
      rw [(c2 3 (by decide)).2]; exact ih x _ _ (by omega) h3
    | sub b E =>
      cases b with
      | index b =>
        obtain ⟨h1, h2, h3, l', h4, h5⟩ := hv
        obtain ⟨c1, c2⟩ := cll.up h h1
        simp only [Term.sub.sizeOf_spec] at hn
        exact ⟨c1, (c2 2 (by decide)).2.trans h2, (c2 6 (by decide)).1.trans h3, l', by rw [(c2 5 (by decide)).2]; exact CHN.up h l' _ h4, ih E _ _ (by omega) h5⟩
      | _ => exact hv.elim
    | div b E =>
      cases b with
      | index b =>
        obtain ⟨h1, h2, h3, l', h4, h5⟩ := hv
        obtain ⟨c1, c2⟩ := cll.up h h1
        simp only [Term.div.sizeOf_spec] at hn
        exact ⟨c1, (c2 2 (by decide)).2.trans h2, (c2 6 (by decide)).1.trans h3, l', by rw [(c2 5 (by decide)).2]; exact CHN.up h l' _ h4, ih E _ _ (by omega) h5⟩
      | _ => exact hv.elim
    | rem b z =>
      cases b with
      | index b =>
        cases z with
        | elem x z =>
          cases z with
          | elem y E =>
            obtain ⟨h1, h2, h3, h4, h5, h6, h7⟩ := hv
            obtain ⟨c1, c2⟩ := cll.up h h1
            simp only [Term.rem.sizeOf_spec, Term.elem.sizeOf_spec] at hn
            refine ⟨c1, (c2 2 (by decide)).2.trans h2, (c2 6 (by decide)).1.trans h3, ?_, ?_, ?_, ?_⟩
            · rw [(c2 3 (by decide)).2]; exact ih x _ _ (by omega) h4
            · rw [(c2 4 (by decide)).2]; exact h5
            · rw [(c2 4 (by decide)).2]; exact fun q => ih y _ _ (by omega) (h6 q)
            · rw [(c2 5 (by decide)).2]
              exact h7.imp id (fun q => ⟨q.1, q.2.choose, CHN.up h _ _ q.2.choose_spec.1, ih E _ _ (by omega) q.2.choose_spec.2⟩)
          | _ => exact hv.elim
        | _ => exact hv.elim
      | _ => exact hv.elim
    | _ => exact hv.elim
end
section
/-! What is seen, by the desk: looked up, put ahead. -/
section
variable {iv : List (Int × Int)} {L : Nat} {h0 : MH} {A A' : Int → Nat} {P : Nat → Prop} {c c0 e : SC} {s s' w : SM} {t : Term} {d : Nat} {ys : List (Nat × Nat)} {rs : List Nat}
theorem seen_find_c {a0 g : Nat} {x : Int} {F : Nat → SC → Prop} {l : List (Int × Nat)} (hg : ∀ a, P a → a ≠ 2) (hC : CHN c P g l) (hF : F (chf l x) c) : ck iv L h0 d 229 [vr a0, vr g, vi x] c (qa F) := by
  have key : ∀ (l : List (Int × Nat)) (g : Nat), CHN c P g l → F (chf l x) c → wk iv L h0 d 229 2 [ln, ln, li x, lr g] [] c (qa F) := by
    intro l
    induction l with
    | nil =>
      intro g hg' h
      have hg' : g = 2 := hg'
      subst hg'
      exact C229_2 ⟨fun _ => h, fun w => absurd rfl w⟩
    | cons q r ih =>
      intro g hg' h
      obtain ⟨⟨h1, h2⟩, h3, h4, h5, h6⟩ := hg'
      refine C229_2 ⟨fun w => absurd w (hg g h1), fun _ => ⟨h2, fun w => ?_, fun w => ?_⟩⟩
      · rw [h3] at w
        unfold chf at h
        rw [if_neg w] at h
        exact ih _ h6 h
      · rw [h3] at w
        unfold chf at h
        rw [if_pos w] at h
        rw [h4]
        exact h
  exact C229 (key l g hC hF)
end
theorem chf_c (q : Int × Nat) (l : List (Int × Nat)) (x : Int) : chf (q :: l) x = if q.1 = x then q.2 else chf l x := rfl
theorem DV_nv {A : Int → Nat} {c : SC} {P : Nat → Prop} {V : Term} {a : Nat} (h : isV V = true) (l l' : List (Int × Nat)) (hv : DV A c P V a l) : DV A c P V a l' := by
  cases V with
  | mul r y => cases h
  | null => cases h
  | int _ => exact hv
  | arg _ => exact hv
  | index _ => exact hv
  | add _ _ => exact hv
  | length _ => exact hv
  | sub b E => cases b <;> first | exact hv | exact hv.elim
  | div b E => cases b <;> first | exact hv | exact hv.elim
  | rem b z =>
    cases b with
    | index b =>
      cases z with
      | elem x z =>
        cases z with
        | elem y E => exact hv
        | _ => exact hv.elim
      | _ => exact hv.elim
    | _ => exact hv.elim
  | _ => exact hv.elim
/-- an env holds what its letters hold -/
theorem DV_lk {A : Int → Nat} {c : SC} {P : Nat → Prop} {l : List (Int × Nat)} : ∀ (n : Nat) (E : Term), isE n E → DV A c P E 2 l → ∀ x, 0 ≤ x → x < n → (chf l x = 2 ↔ lkE E x = .null) ∧ (lkE E x ≠ .null → DV A c P (lkE E x) (chf l x) []) := by
  intro n
  induction n with
  | zero => intro E _ _ x x0 x1; omega
  | succ n ih =>
    intro E hE hv x x0 x1
    cases E with
    | mul r y =>
      have hE : isE n r := hE
      obtain ⟨h1, h2, h3⟩ := hv
      have hm : ∀ (n : Nat) (E : Term), isE n E → mlen E = n := by
        intro n
        induction n with
        | zero => intro E h; cases E <;> first | rfl | exact h.elim
        | succ n ih => intro E h; cases E <;> first | exact h.elim | (rename_i a b; show mlen a + 1 = n + 1; rw [ih a h])
      have hr := hm n r hE
      show (chf l x = 2 ↔ (if (mlen r : Int) = x then y else lkE r x) = .null) ∧ ((if (mlen r : Int) = x then y else lkE r x) ≠ .null → DV A c P (if (mlen r : Int) = x then y else lkE r x) (chf l x) [])
      by_cases q : (mlen r : Int) = x
      · rw [if_pos q, ← q]
        exact ⟨h2, h3⟩
      · rw [if_neg q]
        exact ih r hE h1 x x0 (by omega)
    | _ => exact hE.elim
/-- one more is seen -/
theorem DV_push {A : Int → Nat} {c : SC} {P : Nat → Prop} {l : List (Int × Nat)} {x : Int} {v : Term} {a : Nat} (ha : a ≠ 2) (hv : isV v = true) (hd : DV A c P v a []) : ∀ (n : Nat) (E : Term), isE n E → DV A c P E 2 l → DV A c P (upE E x v) 2 ((x, a) :: l) := by
  intro n
  induction n with
  | zero => intro E hE _; cases E <;> first | exact hE.elim | exact trivial
  | succ n ih =>
    intro E hE h
    cases E with
    | mul r y =>
      have hE : isE n r := hE
      obtain ⟨h1, h2, h3⟩ := h
      have keep : ∀ (n : Nat) (r : Term), isE n r → ((n : Int) ≤ x → DV A c P r 2 l → DV A c P r 2 ((x, a) :: l)) ∧ mlen r = n := by
        intro n
        induction n with
        | zero => intro r hr; cases r <;> first | exact hr.elim | exact ⟨fun _ _ => trivial, rfl⟩
        | succ n ih =>
          intro r hr
          cases r with
          | mul r y =>
            obtain ⟨i1, i2⟩ := ih r hr
            refine ⟨fun hx h => ?_, by show mlen r + 1 = n + 1; rw [i2]⟩
            obtain ⟨h1, h2, h3⟩ := h
            have e : chf ((x, a) :: l) (mlen r) = chf l (mlen r) := by rw [chf_c, if_neg (show ¬ x = (mlen r : Int) by omega)]
            exact ⟨i1 (by omega) h1, by rw [e]; exact h2, by rw [e]; exact h3⟩
          | _ => exact hr.elim
      obtain ⟨k1, k2⟩ := keep n r hE
      show DV A c P (if (mlen r : Int) = x then .mul r v else .mul (upE r x v) y) 2 ((x, a) :: l)
      by_cases q : (mlen r : Int) = x
      · rw [if_pos q]
        have e : chf ((x, a) :: l) (mlen r) = a := by rw [chf_c, if_pos q.symm]
        exact ⟨k1 (by omega) h1, by rw [e]; exact ⟨fun w => absurd w ha, fun w => absurd w (isV_nn hv)⟩, fun _ => by rw [e]; exact hd⟩
      · rw [if_neg q]
        have hml : ∀ (n : Nat) (r : Term), isE n r → mlen (upE r x v) = mlen r := by
          intro n
          induction n with
          | zero => intro r hr; cases r <;> first | exact hr.elim | rfl
          | succ n ih =>
            intro r hr
            cases r with
            | mul r y =>
              show mlen (if (mlen r : Int) = x then .mul r v else .mul (upE r x v) y) = mlen r + 1
              by_cases q : (mlen r : Int) = x
              · rw [if_pos q]; rfl
              · rw [if_neg q]; show mlen (upE r x v) + 1 = mlen r + 1; rw [ih r hr]
            | _ => exact hr.elim
        have e : chf ((x, a) :: l) (mlen (upE r x v)) = chf l (mlen r) := by rw [hml n r hE, chf_c, if_neg (fun w => q w.symm)]
        exact ⟨ih r hE h1, by rw [e]; exact h2, fun w => by rw [e]; exact h3 w⟩
    | _ => exact hE.elim
end
section
/-! The pools of the desk: cells for values, taken anew. -/
def PLs (c : SC) (p : Nat) : Prop := ((0 ≤ fI c p 2 ∧ fI c p 2 ≤ 620) ∧ 0 ≤ fI c p 3 ∧ fI c p 3 ≤ 320) ∧ (∀ i, 0 ≤ i → i < 620 → aR c (p + 1) i = 2 ∨ (353 ≤ aR c (p + 1) i ∧ aR c (p + 1) i < nxt c ∧ kl c (aR c (p + 1) i) = 10)) ∧ ∀ i, 0 ≤ i → i < 320 → aR c (p + 2) i = 2 ∨ (353 ≤ aR c (p + 2) i ∧ aR c (p + 2) i < nxt c ∧ kl c (aR c (p + 2) i) = 7)
def IJ (c : SC) (r : Nat) (n : Int) : Prop := ∀ p q i j, (p = 177 ∨ p = 180) → (q = 177 ∨ q = 180) → 0 ≤ i → i < n → 0 ≤ j → j < n → aR c (p + r) i = aR c (q + r) j → aR c (p + r) i ≠ 2 → p = q ∧ i = j
def PL2 (c : SC) : Prop := (∀ q, (q = 177 ∨ q = 180) → PLs c q) ∧ IJ c 1 620 ∧ IJ c 2 320
/-- not to be taken again -/
def LIV (c : SC) (p : Nat) (a : Nat) : Prop := (353 ≤ a ∧ a < nxt c) ∧ (∀ i, fI c p 2 ≤ i → i < 620 → aR c (p + 1) i ≠ a) ∧ ∀ i, fI c p 3 ≤ i → i < 320 → aR c (p + 2) i ≠ a
/-- in neither row of that pool -/
def NIP (c : SC) (q : Nat) (x : Nat) : Prop := (∀ i, 0 ≤ i → i < 620 → aR c (q + 1) i ≠ x) ∧ ∀ i, 0 ≤ i → i < 320 → aR c (q + 2) i ≠ x
/-- .. and not of the other pool: what the other pool will not take again when they change places -/
def YNG (c : SC) (p : Nat) (x : Nat) : Prop := LIV c p x ∧ ∀ q, (q = 177 ∨ q = 180) → q ≠ p → NIP c q x
theorem yng_up {c f : SC} {p : Nat} (hL : ∀ x, LIV c p x → LIV f p x) (hr : ∀ q i, (q = 177 ∨ q = 180) → q ≠ p → aR f (q + 1) i = aR c (q + 1) i ∧ aR f (q + 2) i = aR c (q + 2) i) : ∀ x, YNG c p x → YNG f p x := fun x h => ⟨hL x h.1, fun q hq hn => ⟨fun i i0 i1 => by rw [(hr q i hq hn).1]; exact (h.2 q hq hn).1 i i0 i1, fun i i0 i1 => by rw [(hr q i hq hn).2]; exact (h.2 q hq hn).2 i i0 i1⟩⟩
/-- how many places of a row are still empty -/
def cnz (f : Int → Nat) : Nat → Nat
  | 0 => 0
  | n + 1 => cnz f n + (if f n = 2 then 1 else 0)
theorem cnz_eq {f g : Int → Nat} : ∀ (n : Nat), (∀ i, 0 ≤ i → i < (n : Int) → g i = f i) → cnz g n = cnz f n := by
  intro n
  induction n with
  | zero => intro _; rfl
  | succ n ih =>
    intro h
    show cnz g n + (if g n = 2 then 1 else 0) = cnz f n + (if f n = 2 then 1 else 0)
    rw [ih (fun i i0 i1 => h i i0 (by omega)), h n (by omega) (by omega)]
theorem cnz_up {f g : Int → Nat} {u : Int} {x : Nat} (h0 : f u = 2) (hx : x ≠ 2) (hg : ∀ i, g i = if i = u then x else f i) : ∀ (n : Nat), 0 ≤ u → u < (n : Int) → cnz g n + 1 = cnz f n := by
  intro n
  induction n with
  | zero => intro h1 h2; omega
  | succ n ih =>
    intro h1 h2
    show cnz g n + (if g n = 2 then 1 else 0) + 1 = cnz f n + (if f n = 2 then 1 else 0)
    by_cases e : u = n
    · rw [← e, h0, hg u, if_pos rfl, if_neg hx, if_pos rfl, cnz_eq n (fun i _ i1 => by rw [hg, if_neg (by omega)])]
    · have e1 : g n = f n := by rw [hg, if_neg (fun w => e w.symm)]
      have := ih h1 (by omega)
      rw [e1]
      omega
/-- .. of all rows of both pools -/
def PHI (c : SC) : Nat := cnz (aR c 178) 620 + cnz (aR c 181) 620 + cnz (aR c 179) 320 + cnz (aR c 182) 320
/-- room is taken where a place was empty -/
def RMP (c e : SC) : Prop := (nxt e + PHI e ≤ nxt c + PHI c ∧ slo e + 7 * PHI e ≤ slo c + 7 * PHI c) ∧ nxt c ≤ nxt e ∧ (∀ a, a < nxt c → kl e a = kl c a) ∧ ∀ a, nxt c ≤ a → a < nxt e → kl e a ≠ 5
theorem RMP.rf {c : SC} : RMP c c := ⟨⟨Nat.le_refl _, Nat.le_refl _⟩, Nat.le_refl _, fun _ _ => rfl, fun a h1 h2 => absurd h1 (by omega)⟩
theorem RMP.tr {c e f : SC} (h1 : RMP c e) (h2 : RMP e f) : RMP c f := ⟨⟨Nat.le_trans h2.1.1 h1.1.1, Nat.le_trans h2.1.2 h1.1.2⟩, Nat.le_trans h1.2.1 h2.2.1, fun a ha => (h2.2.2.1 a (Nat.lt_of_lt_of_le ha h1.2.1)).trans (h1.2.2.1 a ha), fun a a1 a2 => by
  by_cases q : a < nxt e
  · rw [h2.2.2.1 a q]; exact h1.2.2.2 a a1 q
  · exact h2.2.2.2 a (by omega) a2⟩
/-- a value's cell was taken -/
def VTK (c f : SC) (p a : Nat) : Prop := (CX [(6, 2)] [p + 1] c f ∧ RMP c f ∧ fI f p 2 = fI c p 2 + 1 ∧ fI f p 3 = fI c p 3) ∧ (353 ≤ a ∧ a < nxt f ∧ kl f a = 10) ∧ (¬ LIV c p a ∧ YNG f p a ∧ (∀ x, LIV c p x → LIV f p x) ∧ ∀ x, YNG c p x → YNG f p x) ∧ PL2 f
section
variable {iv : List (Int × Int)} {L : Nat} {h0 : MH} {A A' : Int → Nat} {P : Nat → Prop} {c c0 e f : SC} {s s' w : SM} {t : Term} {d p : Nat} {ys : List (Nat × Nat)} {rs : List Nat}
theorem FIX.pl (h : FIX c) (hp : p = 177 ∨ p = 180) : kl c p = 6 ∧ fR c p 0 = p + 1 ∧ fR c p 1 = p + 2 ∧ kl c (p + 1) = 106 ∧ le c (p + 1) = 620 ∧ kl c (p + 2) = 107 ∧ le c (p + 2) = 320 := by
  rcases hp with rfl | rfl
  · simp only [h.1]; exact ⟨trivial, trivial, trivial, trivial, trivial, trivial, trivial⟩
  · simp only [h.1]; exact ⟨trivial, trivial, trivial, trivial, trivial, trivial, trivial⟩
def vini (c : SC) : SC := uI (uR (uR (uR (uR (uI (uI (nO c 9) (nxt c) 0 0) (nxt c) 1 0) (nxt c) 2 2) (nxt c) 3 2) (nxt c) 4 2) (nxt c) 5 2) (nxt c) 6 0
theorem vini_ok (h3 : 353 ≤ nxt c) : CX [] [] c (vini c) ∧ nxt (vini c) = nxt c + 1 ∧ slo (vini c) = slo c + 7 ∧ kl (vini c) (nxt c) = 10 ∧ (∀ a, aR (vini c) a = aR c a) ∧ ∀ a y, a < nxt c → fI (vini c) a y = fI c a y ∧ kl (vini c) a = kl c a := by
  unfold vini
  refine ⟨?_, rfl, rfl, ?_, fun a => rfl, fun a y ha => ⟨?_, ?_⟩⟩
  · have hI : ∀ {e : SC} {y : Nat} {z : Int}, CX [] [] c e → CX [] [] c (uI e (nxt c) y z) := fun h => h.uI (fun q => absurd q (Nat.lt_irrefl _))
    have hR : ∀ {e : SC} {y z : Nat}, CX [] [] c e → CX [] [] c (uR e (nxt c) y z) := fun h => h.uR (fun q => absurd q (Nat.lt_irrefl _))
    exact hI (hR (hR (hR (hR (hI (hI CX.rf.nO))))))
  · simp only [kl_uI, kl_uR, kl_nO]; rw [if_pos trivial]
  · simp only [fI_uI, fI_uR, fI_nO]
    have : ¬ (a = nxt c) := by omega
    simp [this]
  · simp only [kl_uI, kl_uR, kl_nO]
    rw [if_neg (by omega)]
/-- one cell more in use -/
theorem vtk_1 (hX : FIX c) (hp : p = 177 ∨ p = 180) (hP : PL2 c) (hu : fI c p 2 < 620) (ha : aR c (p + 1) (fI c p 2) ≠ 2) : VTK c (uI c p 2 (fI c p 2 + 1)) p (aR c (p + 1) (fI c p 2)) := by
  obtain ⟨k1, k2, k3, k4, k5, k6, k7⟩ := hX.pl hp
  obtain ⟨q1, q2, q3⟩ := hP
  obtain ⟨⟨⟨a1, a2⟩, a3, a4⟩, a5, a6⟩ := q1 p hp
  obtain ⟨b1, b2, b3⟩ := (a5 _ a1 hu).resolve_left ha
  have h353 := hX.2.2.1
  have n3 : fI (uI c p 2 (fI c p 2 + 1)) p 3 = fI c p 3 := by rw [fI_uI, if_neg (by omega)]
  have n2 : fI (uI c p 2 (fI c p 2 + 1)) p 2 = fI c p 2 + 1 := by rw [fI_uI, if_pos ⟨rfl, rfl⟩]
  have hne7 : ∀ i, 0 ≤ i → i < 320 → aR c (p + 2) i ≠ aR c (p + 1) (fI c p 2) := fun i i0 i1 w => by
    rcases a6 i i0 i1 with z | ⟨-, -, z⟩
    · exact ha (w ▸ z)
    · rw [w, b3] at z; omega
  have hLL : ∀ x, LIV c p x → LIV (uI c p 2 (fI c p 2 + 1)) p x := fun x hx => ⟨hx.1, fun i i0 i1 => hx.2.1 i (by rw [n2] at i0; omega) i1, fun i i0 i1 => hx.2.2 i (by rw [n3] at i0; exact i0) i1⟩
  refine ⟨⟨CX.rf.uI (fun _ => by unfold ky; rw [if_neg (by omega), k1]; decide), RMP.rf, n2, n3⟩, ⟨b1, b2, b3⟩, ⟨fun w => w.2.1 _ (Int.le_refl _) hu rfl, ⟨⟨⟨b1, b2⟩, fun i i0 i1 w => ?_, fun i i0 i1 w => ?_⟩, fun q hq hn => ⟨fun i i0 i1 w => hn (q2 q p i _ hq hp i0 i1 a1 hu w (by rw [show aR c (q + 1) i = aR c (p + 1) (fI c p 2) from w]; exact ha)).1, fun i i0 i1 w => ?_⟩⟩, hLL, yng_up hLL (fun q i hq hn => ⟨rfl, rfl⟩)⟩, ⟨fun q hq => ?_, q2, q3⟩⟩
  · rw [n2] at i0
    have w : aR c (p + 1) i = aR c (p + 1) (fI c p 2) := w
    have := (q2 p p i (fI c p 2) hp hp (by omega) i1 a1 hu w (by rw [w]; exact ha)).2
    omega
  · rw [n3] at i0
    exact hne7 i (by omega) i1 w
  · rcases (q1 q hq).2.2 i i0 i1 with z | ⟨-, -, z⟩
    · exact ha ((show aR c (q + 2) i = aR c (p + 1) (fI c p 2) from w) ▸ z)
    · rw [show aR c (q + 2) i = aR c (p + 1) (fI c p 2) from w, b3] at z; omega
  · obtain ⟨⟨⟨c1, c2⟩, c3, c4⟩, c5, c6⟩ := q1 q hq
    refine ⟨?_, c5, c6⟩
    by_cases w : q = p
    · subst w
      rw [n2, n3]
      exact ⟨⟨by omega, by omega⟩, a3, a4⟩
    · rw [fI_uI, if_neg (fun z => w z.2), fI_uI, if_neg (fun z => w z.2)]
      exact ⟨⟨c1, c2⟩, c3, c4⟩
/-- a cell made, kept in the pool -/
theorem vtk_2 (hX : FIX c) (hp : p = 177 ∨ p = 180) (hP : PL2 c) (hu : fI c p 2 < 620) (ha : aR c (p + 1) (fI c p 2) = 2) : VTK c (uI (uB (vini c) (p + 1) (fI c p 2) (nxt c)) p 2 (fI c p 2 + 1)) p (nxt c) := by
  obtain ⟨k1, k2, k3, k4, k5, k6, k7⟩ := hX.pl hp
  obtain ⟨q1, q2, q3⟩ := hP
  have hPp := q1 p hp
  obtain ⟨⟨⟨a1, a2⟩, a3, a4⟩, a5, a6⟩ := hPp
  have h353 := hX.2.2.1
  obtain ⟨v1, v2, v3, v4, v5, v6⟩ := vini_ok h353
  generalize hg : vini c = g at v1 v2 v3 v4 v5 v6
  generalize hu' : fI c p 2 = u at *
  have gx : CX [(6, 2)] [p + 1] c (uI (uB g (p + 1) u (nxt c)) p 2 (u + 1)) := by
    refine CX.uI (CX.uB (v1.up (fun _ w => by cases w) (fun _ w => by cases w)) (fun _ => ?_)) (fun _ => ?_)
    · unfold rk; rw [if_pos (by omega)]; exact List.mem_singleton.mpr rfl
    · rw [kl_uB, (v6 p 0 (by omega)).2, k1]; unfold ky; rw [if_neg (by omega)]; decide
  have eI : ∀ a y, a < nxt c → fI (uI (uB g (p + 1) u (nxt c)) p 2 (u + 1)) a y = if y = 2 ∧ a = p then u + 1 else fI c a y := fun a y h => by rw [fI_uI, fI_uB, (v6 a y h).1]
  have eB : ∀ a i, aR (uI (uB g (p + 1) u (nxt c)) p 2 (u + 1)) a i = if a = p + 1 ∧ i = u then nxt c else aR c a i := fun a i => by rw [aR_uI, aR_uB, v5]
  have eK : ∀ a, a < nxt c → kl (uI (uB g (p + 1) u (nxt c)) p 2 (u + 1)) a = kl c a := fun a h => by rw [kl_uI, kl_uB, (v6 a 0 h).2]
  have eN : nxt (uI (uB g (p + 1) u (nxt c)) p 2 (u + 1)) = nxt c + 1 := v2
  have eS : slo (uI (uB g (p + 1) u (nxt c)) p 2 (u + 1)) = slo c + 7 := v3
  have e10 : kl (uI (uB g (p + 1) u (nxt c)) p 2 (u + 1)) (nxt c) = 10 := v4
  generalize uI (uB g (p + 1) u (nxt c)) p 2 (u + 1) = f at gx eI eB eK eN eS e10
  have f2 : fI f p 2 = u + 1 := by rw [eI p 2 (by omega), if_pos ⟨rfl, rfl⟩]
  have f3 : fI f p 3 = fI c p 3 := by rw [eI p 3 (by omega), if_neg (by omega)]
  have rowlt : ∀ q i, (q = 177 ∨ q = 180) → 0 ≤ i → i < 620 → aR c (q + 1) i < nxt c := fun q i hq i0 i1 => by
    rcases (q1 q hq).2.1 i i0 i1 with z | z <;> omega
  have rowlt2 : ∀ q i, (q = 177 ∨ q = 180) → 0 ≤ i → i < 320 → aR c (q + 2) i < nxt c := fun q i hq i0 i1 => by
    rcases (q1 q hq).2.2 i i0 i1 with z | z <;> omega
  have s2 : ∀ q i, (q = 177 ∨ q = 180) → aR f (q + 2) i = aR c (q + 2) i := fun q i hq => by rw [eB, if_neg (by omega)]
  have s1 : ∀ q i, (q = 177 ∨ q = 180) → ¬ (q = p ∧ i = u) → aR f (q + 1) i = aR c (q + 1) i := fun q i hq h => by rw [eB, if_neg (by omega)]
  have s0 : aR f (p + 1) u = nxt c := by rw [eB, if_pos ⟨rfl, rfl⟩]
  have hphi : PHI f + 1 = PHI c := by
    have hd : ∀ q, q ≠ p + 1 → aR f q = aR c q := fun q hq => by funext i; rw [eB, if_neg (fun z => hq z.1)]
    have hup : cnz (aR f (p + 1)) 620 + 1 = cnz (aR c (p + 1)) 620 := cnz_up (x := nxt c) ha (by omega) (fun i => by rw [eB]; simp) 620 a1 hu
    unfold PHI
    rcases hp with rfl | rfl
    · rw [hd 181 (by decide), hd 179 (by decide), hd 182 (by decide)]
      have hup : cnz (aR f 178) 620 + 1 = cnz (aR c 178) 620 := hup
      omega
    · rw [hd 178 (by decide), hd 179 (by decide), hd 182 (by decide)]
      have hup : cnz (aR f 181) 620 + 1 = cnz (aR c 181) 620 := hup
      omega
  have hLL : ∀ x, LIV c p x → LIV f p x := fun x hx => by
    refine ⟨⟨hx.1.1, by have := hx.1.2; omega⟩, fun i i0 i1 => ?_, fun i i0 i1 => ?_⟩
    · rw [f2] at i0
      rw [s1 p i hp (by omega)]
      exact hx.2.1 i (by omega) i1
    · rw [f3] at i0
      rw [s2 p i hp]
      exact hx.2.2 i i0 i1
  refine ⟨⟨gx, ⟨⟨by omega, by omega⟩, by omega, fun a ha => eK a ha, fun a a1 a2 => by rw [show a = nxt c by omega, e10]; decide⟩, by rw [hu']; exact f2, f3⟩, ⟨by omega, by omega, e10⟩, ⟨fun w => by have := w.1.2; omega, ⟨⟨⟨by omega, by omega⟩, fun i i0 i1 w => ?_, fun i i0 i1 w => ?_⟩, fun q hq hn => ⟨fun i i0 i1 w => ?_, fun i i0 i1 w => ?_⟩⟩, hLL, yng_up hLL (fun q i hq hn => ⟨s1 q i hq (fun z => hn z.1), s2 q i hq⟩)⟩, ⟨fun q hq => ?_, fun r q i j hr hq i0 i1 j0 j1 he hn => ?_, fun r q i j hr hq i0 i1 j0 j1 he hn => ?_⟩⟩
  · rw [f2] at i0
    rw [s1 p i hp (by omega)] at w
    have := rowlt p i hp (by omega) i1
    omega
  · rw [f3] at i0
    rw [s2 p i hp] at w
    have := rowlt2 p i hp (by omega) i1
    omega
  · rw [s1 q i hq (fun z => hn z.1)] at w
    have := rowlt q i hq i0 i1
    omega
  · rw [s2 q i hq] at w
    have := rowlt2 q i hq i0 i1
    omega
  · obtain ⟨⟨⟨c1, c2⟩, c3, c4⟩, c5, c6⟩ := q1 q hq
    refine ⟨?_, fun i i0 i1 => ?_, fun i i0 i1 => ?_⟩
    · rw [eI q 2 (by omega), eI q 3 (by omega), if_neg (show ¬ (3 = 2 ∧ q = p) by omega)]
      by_cases w : q = p
      · rw [if_pos ⟨rfl, w⟩]; exact ⟨⟨by omega, by omega⟩, c3, c4⟩
      · rw [if_neg (fun z => w z.2)]; exact ⟨⟨c1, c2⟩, c3, c4⟩
    · by_cases w : q = p ∧ i = u
      · rw [w.1, w.2, s0]; exact Or.inr ⟨by omega, by omega, e10⟩
      · rw [s1 q i hq w]
        refine (c5 i i0 i1).imp id (fun z => ⟨z.1, by omega, ?_⟩)
        rw [eK _ z.2.1]; exact z.2.2
    · rw [s2 q i hq]
      refine (c6 i i0 i1).imp id (fun z => ⟨z.1, by omega, ?_⟩)
      rw [eK _ z.2.1]; exact z.2.2
  · by_cases w : r = p ∧ i = u
    · by_cases w' : q = p ∧ j = u
      · exact ⟨w.1.trans w'.1.symm, w.2.trans w'.2.symm⟩
      · rw [w.1, w.2, s0, s1 q j hq w'] at he
        have := rowlt q j hq j0 j1
        omega
    · by_cases w' : q = p ∧ j = u
      · rw [w'.1, w'.2, s0, s1 r i hr w] at he
        have := rowlt r i hr i0 i1
        omega
      · rw [s1 r i hr w] at he hn
        rw [s1 q j hq w'] at he
        exact q2 r q i j hr hq i0 i1 j0 j1 he hn
  · rw [s2 r i hr] at he hn
    rw [s2 q j hq] at he
    exact q3 r q i j hr hq i0 i1 j0 j1 he hn
end
end
section
/-! A value made by the desk: C195 to C200. -/
def vset (f : SC) (a : Nat) (k n : Int) (b g : Nat) (q : Int) : SC := uI (uR (uR (uR (uR (uI (uI f a 0 k) a 1 n) a 2 b) a 3 2) a 4 2) a 5 g) a 6 q
def vaY : List (Nat × Nat) := [(6, 2), (10, 0), (10, 1), (10, 2), (10, 3), (10, 4), (10, 5), (10, 6)]
def vfl (k : Int) : Int := if 4 ≤ k then 1 else 0
/-- a value is new at a -/
def VNW (c e : SC) (p a : Nat) (k n : Int) (b x y g : Nat) (q : Int) : Prop := (CX vaY [p + 1] c e ∧ RMP c e ∧ fI e p 2 = fI c p 2 + 1 ∧ fI e p 3 = fI c p 3) ∧ ((STY (LIV c p) (LIV e p) c e ∧ STY (YNG c p) (YNG e p) c e) ∧ YNG e p a ∧ ¬ LIV c p a ∧ PL2 e) ∧ (353 ≤ a ∧ a < nxt e ∧ kl e a = 10) ∧ (fI e a 0 = k ∧ fI e a 1 = n ∧ fR e a 2 = b ∧ fR e a 3 = x ∧ fR e a 4 = y ∧ fR e a 5 = g ∧ fI e a 6 = q) ∧ ∀ u v, 353 ≤ u → u ≠ a → u < nxt c → kl c u ≠ 6 → fI e u v = fI c u v ∧ fR e u v = fR c u v
section
variable {iv : List (Int × Int)} {L : Nat} {h0 : MH} {A A' : Int → Nat} {P : Nat → Prop} {c c0 e f : SC} {s s' w : SM} {t : Term} {d p a : Nat} {ys : List (Nat × Nat)} {rs : List Nat}
theorem LIV_eq (h1 : nxt f = nxt e) (h2 : ∀ y, fI e p y = fI f p y) (h3 : ∀ a, aR e a = aR f a) (x : Nat) (h : LIV f p x) : LIV e p x := ⟨⟨h.1.1, by rw [← h1]; exact h.1.2⟩, fun i i0 i1 => by rw [h3]; exact h.2.1 i (by rw [h2] at i0; exact i0) i1, fun i i0 i1 => by rw [h3]; exact h.2.2 i (by rw [h2] at i0; exact i0) i1⟩
theorem PL2_eq (h : PL2 f) (h1 : nxt f = nxt e) (h2 : ∀ q y, (q = 177 ∨ q = 180) → fI e q y = fI f q y) (h3 : ∀ a, aR e a = aR f a) (h4 : ∀ a, kl e a = kl f a) : PL2 e := by
  obtain ⟨q1, q2, q3⟩ := h
  refine ⟨fun q hq => ?_, fun r q i j hr hq i0 i1 j0 j1 he hn => ?_, fun r q i j hr hq i0 i1 j0 j1 he hn => ?_⟩
  · obtain ⟨c1, c5, c6⟩ := q1 q hq
    refine ⟨by rw [h2 q 2 hq, h2 q 3 hq]; exact c1, fun i i0 i1 => ?_, fun i i0 i1 => ?_⟩
    · rw [h3, h4, ← h1]; exact c5 i i0 i1
    · rw [h3, h4, ← h1]; exact c6 i i0 i1
  · rw [h3] at he hn; rw [h3] at he
    exact q2 r q i j hr hq i0 i1 j0 j1 he hn
  · rw [h3] at he hn; rw [h3] at he
    exact q3 r q i j hr hq i0 i1 j0 j1 he hn
/-- fields of the new cell alone are set -/
theorem vnw_of {k n q : Int} {b x y g : Nat} (hX : FIX c) (hp : p = 177 ∨ p = 180) (h : VTK c f p a) (hx : CX vaY [] f e) (hn : nxt e = nxt f) (hs : slo e = slo f) (hk : ∀ u, kl e u = kl f u) (hr : ∀ u, aR e u = aR f u) (ho : ∀ u v, u ≠ a → fI e u v = fI f u v ∧ fR e u v = fR f u v) (hv : fI e a 0 = k ∧ fI e a 1 = n ∧ fR e a 2 = b ∧ fR e a 3 = x ∧ fR e a 4 = y ∧ fR e a 5 = g ∧ fI e a 6 = q) : VNW c e p a k n b x y g q := by
  obtain ⟨⟨h1, h2, h2a, h2b⟩, ⟨h3, h4, h5⟩, ⟨h6, h7, h8, h8'⟩, h9⟩ := h
  have h353 := hX.2.2.1
  have pa : p ≠ a := by omega
  have hphi : PHI e = PHI f := by unfold PHI; rw [hr, hr, hr, hr]
  have eL : ∀ u, LIV f p u → LIV e p u := LIV_eq hn.symm (fun v => (ho p v pa).1) hr
  have old : ∀ u v, 353 ≤ u → u ≠ a → u < nxt c → kl c u ≠ 6 → fI e u v = fI c u v ∧ fR e u v = fR c u v := fun u v u0 ua un u6 => by
    obtain ⟨o1, o2⟩ := ho u v ua
    rw [o1, o2]
    have hky : ky u (kl c u) = kl c u := by unfold ky; rw [if_neg (by omega)]
    exact ⟨h1.i un (by rw [hky]; simp; omega), h1.r un (by rw [hky]; simp; omega)⟩
  have eY : ∀ u, YNG f p u → YNG e p u := yng_up eL (fun q i hq hn => ⟨by rw [hr], by rw [hr]⟩)
  have same : ∀ u, LIV c p u → (kl c u = 10 ∨ kl c u = 7 → kl e u = kl c u ∧ ∀ y, y < 7 → fI e u y = fI c u y ∧ fR e u y = fR c u y) := fun u hu hku => by
    have ua : u ≠ a := fun w => h6 (w ▸ hu)
    refine ⟨by rw [hk, h1.k hu.1.2], fun v _ => ?_⟩
    obtain ⟨o1, o2⟩ := ho u v ua
    rw [o1, o2]
    have hky : ky u (kl c u) = kl c u := by have := hu.1.1; unfold ky; rw [if_neg (by omega)]
    exact ⟨h1.i hu.1.2 (by rw [hky]; simp; omega), h1.r hu.1.2 (by rw [hky]; simp; omega)⟩
  exact ⟨⟨(h1.up (by decide) (fun _ w => w)).tr (hx.up (fun _ w => w) (fun _ w => by cases w)), ⟨⟨by rw [hn, hphi]; exact h2.1.1, by rw [hs, hphi]; exact h2.1.2⟩, by rw [hn]; exact h2.2.1, fun a ha => by rw [hk]; exact h2.2.2.1 a ha, fun a a1 a2 => by rw [hk]; exact h2.2.2.2 a a1 (by rw [← hn]; exact a2)⟩, by rw [(ho p 2 pa).1]; exact h2a, by rw [(ho p 3 pa).1]; exact h2b⟩, ⟨⟨fun u hu => ⟨eL u (h8 u hu), same u hu⟩, fun u hu => ⟨eY u (h8' u hu), same u hu.1⟩⟩, eY a h7, h6, PL2_eq h9 hn.symm (fun q v hq => (ho q v (by omega)).1) hr hk⟩, ⟨h3, by rw [hn]; exact h4, by rw [hk]; exact h5⟩, hv, old⟩
end
section
variable {iv : List (Int × Int)} {L : Nat} {h0 : MH} {A A' : Int → Nat} {P : Nat → Prop} {c c0 e f : SC} {s s' w : SM} {t : Term} {d p a b g x y : Nat} {k n : Int} {ys : List (Nat × Nat)} {rs : List Nat}
theorem vini_c {F : SC → Prop} (h3 : 353 ≤ nxt c) (H : F (vini c)) : ck iv L h0 d 224 [vr (nxt c)] (nO c 9) (qv F) := C224 ⟨by omega, by rw [kl_nO, if_pos rfl], H⟩
theorem left_c {G : Int → SC → Prop} (hk : kl f a = 10) (h : ∀ z, z = vfl k → G z (uR (uR (uR (uR (uI (uI f a 0 k) a 1 n) a 2 b) a 3 2) a 4 2) a 5 g)) : ck iv L h0 d 225 [vr a] (uR (uR (uR (uR (uI (uI f a 0 k) a 1 n) a 2 b) a 3 2) a 4 2) a 5 g) (qi G) := by
  have e0 : fI (uR (uR (uR (uR (uI (uI f a 0 k) a 1 n) a 2 b) a 3 2) a 4 2) a 5 g) a 0 = k := by
    simp only [fI_uR, fI_uI]
    rw [if_neg (by omega), if_pos ⟨trivial, trivial⟩]
  refine C225 ⟨hk, fun q => h 0 ?_, fun q => h 1 ?_⟩
  · rw [e0] at q; unfold vfl; rw [if_neg (by omega)]
  · rw [e0] at q; unfold vfl; rw [if_pos q]
theorem vfl01 (k : Int) : vfl k = 0 ∨ vfl k = 1 := by unfold vfl; split <;> simp
/-- a value's cell: C195 -/
theorem made_c (hX : FIX c) (hp : p = 177 ∨ p = 180) (hP : PL2 c) (hu : fI c p 2 < 620) {F : Nat → SC → Prop} (hF : ∀ f a, VTK c f p a → F a (vset f a k n b g (vfl k))) : ck iv L h0 (d + 1) 195 [vr p, vi k, vi n, vr b, vr g] c (qa F) := by
  obtain ⟨k1, k2, k3, k4, k5, k6, k7⟩ := hX.pl hp
  obtain ⟨⟨⟨a1, a2⟩, a3, a4⟩, a5, a6⟩ := hP.1 p hp
  have h353 := hX.2.2.1
  obtain ⟨v1, v2, v3, v4, v5, v6⟩ := vini_ok h353
  have pn : p < nxt c := by omega
  have p1n : p + 1 < nxt c := by omega
  refine C195 ⟨k1, by rw [k2, k4]; omega, fun h => ?_, fun h => ?_⟩
  · rw [k2, k5] at h
    simp only [k2, k4, k5]
    refine ⟨trivial, ⟨a1, h⟩, fun w => ?_, fun w => ?_⟩
    · refine ⟨by omega, ((a5 _ a1 h).resolve_left w).2.2, left_c ((a5 _ a1 h).resolve_left w).2.2 (fun z hz => ?_)⟩
      subst hz
      exact ⟨vfl01 k, ((a5 _ a1 h).resolve_left w).2.2, hF _ _ (vtk_1 hX hp hP h w)⟩
    · refine ⟨h353, by omega, vini_c h353 ?_⟩
      have q0 : fR (vini c) p 0 = p + 1 := by rw [v1.r pn (fun q => by cases q), k2]
      have q1 : fI (vini c) p 2 = fI c p 2 := (v6 p 2 pn).1
      have q2 : kl (vini c) (p + 1) = 106 := by rw [(v6 (p + 1) 0 p1n).2, k4]
      have q3 : le (vini c) (p + 1) = 620 := by rw [v1.l p1n, k5]
      have q4 : kl (vini c) p = 6 := by rw [(v6 p 0 pn).2, k1]
      have q5 : aR (uB (vini c) (p + 1) (fI c p 2) (nxt c)) (p + 1) (fI c p 2) = nxt c := by rw [aR_uB, if_pos ⟨rfl, rfl⟩]
      simp only [q0, q1, q2, q3, q4, q5]
      refine ⟨trivial, ⟨a1, h⟩, Or.inr v4, trivial, by omega, trivial, ⟨a1, h⟩, v4, left_c v4 (fun z hz => ?_)⟩
      subst hz
      exact ⟨vfl01 k, v4, hF _ _ (vtk_2 hX hp hP h w)⟩
  · rw [k2, k5] at h; omega
theorem vset_ok (f : SC) (a : Nat) (k n : Int) (b g : Nat) (q : Int) (hka : ky a (kl f a) = 10) : CX vaY [] f (vset f a k n b g q) := by
  unfold vset
  have m : ∀ y, y < 7 → ((ky a (kl f a), y) ∈ vaY) := fun y hy => by rw [hka]; unfold vaY; match y, hy with
    | 0, _ => decide
    | 1, _ => decide
    | 2, _ => decide
    | 3, _ => decide
    | 4, _ => decide
    | 5, _ => decide
    | 6, _ => decide
    | (_ + 7), h => omega
  exact CX.uI (CX.uR (CX.uR (CX.uR (CX.uR (CX.uI (CX.uI CX.rf (fun _ => m 0 (by omega))) (fun _ => m 1 (by omega))) (fun _ => m 2 (by omega))) (fun _ => m 3 (by omega))) (fun _ => m 4 (by omega))) (fun _ => m 5 (by omega))) (fun _ => m 6 (by omega))
end
section
variable {iv : List (Int × Int)} {L : Nat} {h0 : MH} {A A' : Int → Nat} {P : Nat → Prop} {c c0 e f : SC} {s s' w : SM} {t : Term} {d p a b g x y : Nat} {k n q q' : Int} {ys : List (Nat × Nat)} {rs : List Nat}
theorem VTK.hk (hX : FIX c) (h : VTK c f p a) : ky a (kl f a) = 10 := by
  obtain ⟨-, ⟨h3, h4, h5⟩, -⟩ := h
  unfold ky
  rw [if_neg (by omega), h5]
theorem vnw_0 (hX : FIX c) (hp : p = 177 ∨ p = 180) (h : VTK c f p a) : VNW c (vset f a k n b g q) p a k n b 2 2 g q := by
  refine vnw_of hX hp h (vset_ok f a k n b g q (h.hk hX)) rfl rfl (fun _ => rfl) (fun _ => rfl) (fun u v hu => ?_) ?_
  · unfold vset
    simp only [fI_uI, fI_uR, fR_uI, fR_uR, hu, and_false, if_false]
    exact ⟨trivial, trivial⟩
  · unfold vset
    simp only [fI_uI, fI_uR, fR_uI, fR_uR, and_true]
    simp
theorem vnw_2 {x y : Nat} (hX : FIX c) (hp : p = 177 ∨ p = 180) (h : VTK c f p a) : VNW c (uI (uR (uR (vset f a k n b g q) a 3 x) a 4 y) a 6 q') p a k n b x y g q' := by
  have hk := h.hk hX
  refine vnw_of hX hp h (CX.uI (CX.uR (CX.uR (vset_ok f a k n b g q hk) (fun _ => ?_)) (fun _ => ?_)) (fun _ => ?_)) rfl rfl (fun _ => rfl) (fun _ => rfl) (fun u v hu => ?_) ?_
  · show (ky a (kl f a), 3) ∈ vaY; rw [hk]; decide
  · show (ky a (kl f a), 4) ∈ vaY; rw [hk]; decide
  · show (ky a (kl f a), 6) ∈ vaY; rw [hk]; decide
  · unfold vset
    simp only [fI_uI, fI_uR, fR_uI, fR_uR, hu, and_false, if_false]
    exact ⟨trivial, trivial⟩
  · unfold vset
    simp only [fI_uI, fI_uR, fR_uI, fR_uR, and_true]
    simp
theorem vnw_1 {x y : Nat} (hX : FIX c) (hp : p = 177 ∨ p = 180) (h : VTK c f p a) : VNW c (uR (uR (vset f a k n b g q) a 3 x) a 4 y) p a k n b x y g q := by
  have hk := h.hk hX
  refine vnw_of hX hp h (CX.uR (CX.uR (vset_ok f a k n b g q hk) (fun _ => ?_)) (fun _ => ?_)) rfl rfl (fun _ => rfl) (fun _ => rfl) (fun u v hu => ?_) ?_
  · show (ky a (kl f a), 3) ∈ vaY; rw [hk]; decide
  · show (ky a (kl f a), 4) ∈ vaY; rw [hk]; decide
  · unfold vset
    simp only [fI_uI, fI_uR, fR_uI, fR_uR, hu, and_false, if_false]
    exact ⟨trivial, trivial⟩
  · unfold vset
    simp only [fI_uI, fI_uR, fR_uI, fR_uR, and_true]
    simp
theorem vnw_3 {x : Nat} (hX : FIX c) (hp : p = 177 ∨ p = 180) (h : VTK c f p a) : VNW c (uR (vset f a k n b g q) a 3 x) p a k n b x 2 g q := by
  have hk := h.hk hX
  refine vnw_of hX hp h (CX.uR (vset_ok f a k n b g q hk) (fun _ => ?_)) rfl rfl (fun _ => rfl) (fun _ => rfl) (fun u v hu => ?_) ?_
  · show (ky a (kl f a), 3) ∈ vaY; rw [hk]; decide
  · unfold vset
    simp only [fI_uI, fI_uR, fR_uI, fR_uR, hu, and_false, if_false]
    exact ⟨trivial, trivial⟩
  · unfold vset
    simp only [fI_uI, fI_uR, fR_uI, fR_uR, and_true]
    simp
theorem plainv_c (hX : FIX c) (hp : p = 177 ∨ p = 180) (hP : PL2 c) (hu : fI c p 2 < 620) {F : Nat → SC → Prop} (hF : ∀ e a, VNW c e p a k n 2 2 2 2 (vfl k) → F a e) : ck iv L h0 (d + 2) 196 [vr p, vi k, vi n] c (qa F) :=
  C196 ⟨(hX.pl hp).1, made_c hX hp hP hu (fun _ _ h => hF _ _ (vnw_0 hX hp h))⟩
theorem seeing_c (hX : FIX c) (hp : p = 177 ∨ p = 180) (hP : PL2 c) (hu : fI c p 2 < 620) {F : Nat → SC → Prop} (hF : ∀ e a, VNW c e p a k 0 b 2 2 g (vfl k) → F a e) : ck iv L h0 (d + 2) 197 [vr p, vi k, vr b, vr g] c (qa F) :=
  C197 ⟨(hX.pl hp).1, made_c hX hp hP hu (fun _ _ h => hF _ _ (vnw_0 hX hp h))⟩
theorem couple_c (hX : FIX c) (hp : p = 177 ∨ p = 180) (hP : PL2 c) (hu : fI c p 2 < 620) (hx : YNG c p x ∧ kl c x = 10) (hy : YNG c p y ∧ kl c y = 10) {F : Nat → SC → Prop} (hF : ∀ e a, VNW c e p a 3 0 2 x y 2 (if fI c x 6 ≠ 0 ∨ fI c y 6 ≠ 0 then 1 else 0) → F a e) : ck iv L h0 (d + 2) 198 [vr p, vr x, vr y] c (qa F) := by
  refine C198 ⟨(hX.pl hp).1, made_c hX hp hP hu (fun f a h => ?_)⟩
  obtain ⟨-, ⟨⟨-, s2⟩, -⟩, -, -, -⟩ := vnw_0 (k := 3) (n := 0) (b := 2) (g := 2) (q := vfl 3) hX hp h
  have hk := h.2.1.2.2
  have hx' := (s2 x hx.1).2 (Or.inl hx.2)
  have hy' := (s2 y hy.1).2 (Or.inl hy.2)
  refine ⟨hk, hx'.1.trans hx.2, ?_⟩
  rw [(hx'.2 6 (by decide)).1]
  refine ⟨fun w => hF _ _ ?_, fun w => ⟨hy'.1.trans hy.2, ?_⟩⟩
  · rw [if_pos (Or.inl w)]; exact vnw_2 hX hp h
  · rw [(hy'.2 6 (by decide)).1]
    refine ⟨fun w2 => hF _ _ ?_, fun w2 => hF _ _ ?_⟩
    · rw [if_neg (by omega)]; exact vnw_2 hX hp h
    · rw [if_pos (Or.inr w2)]; exact vnw_2 hX hp h
theorem framed_c (hX : FIX c) (hp : p = 177 ∨ p = 180) (hP : PL2 c) (hu : fI c p 2 < 620) {F : Nat → SC → Prop} (hF : ∀ e a, VNW c e p a 6 0 2 x 2 2 1 → F a e) : ck iv L h0 (d + 2) 199 [vr p, vr x] c (qa F) :=
  C199 ⟨(hX.pl hp).1, made_c hX hp hP hu (fun _ _ h => ⟨h.2.1.2.2, hF _ _ (vnw_3 hX hp h)⟩)⟩
theorem acted_c (hX : FIX c) (hp : p = 177 ∨ p = 180) (hP : PL2 c) (hu : fI c p 2 < 620) {F : Nat → SC → Prop} (hF : ∀ e a, VNW c e p a 7 0 b x y g 1 → F a e) : ck iv L h0 (d + 2) 200 [vr p, vr b, vr x, vr y, vr g] c (qa F) :=
  C200 ⟨(hX.pl hp).1, made_c hX hp hP hu (fun _ _ h => ⟨h.2.1.2.2, hF _ _ (vnw_1 hX hp h)⟩)⟩
end
end
section
/-! Two methods of the desk once more: sums that wrap; what is seen so far at the loop's head. Printed by wip/gen2/gens.py. -/
section
variable {S : Type} {iv : List (Int × Int)} {L : Nat} {Rp : S → MH → Prop} {cs : S → Nat × Nat} {d M pc nx x y : Nat} {ls : LV} {st : List VV} {s : S} {Q : Option VV → S → Prop}
theorem w_idivw {a b : Int} (he : (mG L (fun _ => 0)).1 M pc = some (.idiv, nx, x, y)) (hb : b ≠ 0) (hw : wp iv L Rp cs d M nx ls (vi (w32 (a.tdiv b)) :: st) s Q) : wp iv L Rp cs d M pc ls (vi b :: vi a :: st) s Q :=
  wp_os he (fun h1 h2 => ⟨okS_ci (w32_in _) (okS_t (okS_t h2)), fun h lc _ => by
    show (if Int32.ofInt b = 0 then none else okk nx (lc) (.int (Int32.ofInt a / Int32.ofInt b) :: ems st) h) = some (Sum.inl (nx, lc, .int (Int32.ofInt (w32 (a.tdiv b))) :: ems st, h, 0, 0))
    have e : Int32.ofInt a / Int32.ofInt b = Int32.ofInt (a.tdiv b) := by
      apply Int32.toInt.inj
      rw [Int32.toInt_div, i_to (okS_h (okS_t h2)), i_to (okS_h h2), Int32.toInt_ofInt]
    rw [if_neg (i_nz (okS_h h2) hb), e, w32_of]; rfl⟩) hw
end
/-- HoleDesk$Worker.reckon(LHoleDesk$Node;II)LHoleDesk$Value; -/
theorem D240 {iv : List (Int × Int)} {L : Nat} {h0 : MH} {d : Nat} {s : SC} {a0 : Nat} {a1 : Nat} {a2 : Int} {a3 : Int} {F : Nat → SC → Prop} (H : (kl s a1 = 5) ∧ ((fI s a1 1 = 4 → (kl s a0 = 11) ∧ (kl s (fR s a0 0) = 6) ∧ ck iv L h0 d 196 [vr (fR s a0 0), vi 0, vi (w32 (a2 + a3))] s (qa fun r5 s4 => F r5 s4)) ∧ (fI s a1 1 = 5 → (kl s a0 = 11) ∧ (kl s (fR s a0 0) = 6) ∧ ck iv L h0 d 196 [vr (fR s a0 0), vi 0, vi (w32 (a2 * a3))] s (qa fun r9 s8 => F r9 s8)) ∧ (fI s a1 1 = 6 → ((a3 ≠ 0 → (kl s a0 = 11) ∧ (a3 ≠ 0) ∧ (kl s (fR s a0 0) = 6) ∧ ck iv L h0 d 196 [vr (fR s a0 0), vi 0, vi (w32 (a2.tdiv a3))] s (qa fun r14 s13 => F r14 s13)) ∧ (a3 = 0 → (kl s a0 = 11) ∧ ck iv L h0 d 232 [vr a0, vi 2, vi (fI s a1 0)] s (qa fun r17 s16 => F r17 s16)))) ∧ (fI s a1 1 < 4 ∨ 6 < fI s a1 1 → (kl s a0 = 11) ∧ ((a3 ≤ a2 → (kl s (fR s a0 0) = 6) ∧ ck iv L h0 d 196 [vr (fR s a0 0), vi 1, vi 0] s (qa fun r21 s20 => F r21 s20)) ∧ (a2 < a3 → (kl s (fR s a0 0) = 6) ∧ ck iv L h0 d 196 [vr (fR s a0 0), vi 1, vi 1] s (qa fun r24 s23 => F r24 s23)))))) : ck iv L h0 (d + 1) 240 [vr a0, vr a1, vi a2, vi a3] s (qa F) := by
  show wk iv L h0 (d + 1) 240 0 [lr a0, lr a1, li a2, li a3] [] s (qa F)
  refine w_aload_n rfl rfl ?_
  obtain ⟨g1, H⟩ := H
  refine c_get rfl rfl rfl g1 ?_
  have J32 : (fI s a1 1 = 4) → wk iv L h0 (d + 1) 240 32 [lr a0, lr a1, li a2, li a3] [] s (qa F) := fun h => by
    replace H := H.1 h
    refine w_aload_n rfl rfl ?_
    obtain ⟨g2, H⟩ := H
    refine c_getr rfl rfl rfl g2 ?_
    refine w_iconst (n := 0) rfl rfl ?_
    refine w_iload_n rfl rfl ?_
    refine w_iload_n rfl rfl ?_
    refine w_iaddw rfl ?_
    obtain ⟨g3, H⟩ := H
    refine c_virt (p := (fR s a0 0)) (as := [vi 0, vi (w32 (a2 + a3))]) (r := []) rfl rfl rfl rfl rfl rfl g3 (wc_mono H (Nat.le_refl _) ?_)
    rintro _ s4 ⟨r5, rfl, H⟩
    show wk iv L h0 (d + 1) 240 43 [lr a0, lr a1, li a2, li a3] [vr r5] s4 (qa F)
    exact w_aret rfl rfl ⟨_, rfl, H⟩
  have J44 : (fI s a1 1 = 5) → wk iv L h0 (d + 1) 240 44 [lr a0, lr a1, li a2, li a3] [] s (qa F) := fun h => by
    replace H := H.2.1 h
    refine w_aload_n rfl rfl ?_
    obtain ⟨g6, H⟩ := H
    refine c_getr rfl rfl rfl g6 ?_
    refine w_iconst (n := 0) rfl rfl ?_
    refine w_iload_n rfl rfl ?_
    refine w_iload_n rfl rfl ?_
    refine w_imulw rfl ?_
    obtain ⟨g7, H⟩ := H
    refine c_virt (p := (fR s a0 0)) (as := [vi 0, vi (w32 (a2 * a3))]) (r := []) rfl rfl rfl rfl rfl rfl g7 (wc_mono H (Nat.le_refl _) ?_)
    rintro _ s8 ⟨r9, rfl, H⟩
    show wk iv L h0 (d + 1) 240 55 [lr a0, lr a1, li a2, li a3] [vr r9] s8 (qa F)
    exact w_aret rfl rfl ⟨_, rfl, H⟩
  have J56 : (fI s a1 1 = 6) → wk iv L h0 (d + 1) 240 56 [lr a0, lr a1, li a2, li a3] [] s (qa F) := fun h => by
    replace H := H.2.2.1 h
    refine w_iload_n rfl rfl ?_
    refine w_if_ne rfl (fun h => ?_) (fun h => ?_)
    · replace H := H.1 h
      refine w_aload_n rfl rfl ?_
      obtain ⟨g10, H⟩ := H
      refine c_getr rfl rfl rfl g10 ?_
      refine w_iconst (n := 0) rfl rfl ?_
      refine w_iload_n rfl rfl ?_
      refine w_iload_n rfl rfl ?_
      obtain ⟨g11, H⟩ := H
      refine w_idivw rfl g11 ?_
      obtain ⟨g12, H⟩ := H
      refine c_virt (p := (fR s a0 0)) (as := [vi 0, vi (w32 (a2.tdiv a3))]) (r := []) rfl rfl rfl rfl rfl rfl g12 (wc_mono H (Nat.le_refl _) ?_)
      rintro _ s13 ⟨r14, rfl, H⟩
      show wk iv L h0 (d + 1) 240 83 [lr a0, lr a1, li a2, li a3] [vr r14] s13 (qa F)
      exact w_aret rfl rfl ⟨_, rfl, H⟩
    · replace H := H.2 h
      refine w_aload_n rfl rfl ?_
      refine w_iconst (n := 2) rfl rfl ?_
      refine w_aload_n rfl rfl ?_
      refine c_get rfl rfl rfl g1 ?_
      obtain ⟨g15, H⟩ := H
      refine c_virt (p := a0) (as := [vi 2, vi (fI s a1 0)]) (r := []) rfl rfl rfl rfl rfl rfl g15 (wc_mono H (Nat.le_refl _) ?_)
      rintro _ s16 ⟨r17, rfl, H⟩
      show wk iv L h0 (d + 1) 240 69 [lr a0, lr a1, li a2, li a3] [vr r17] s16 (qa F)
      refine w_goto rfl ?_
      exact w_aret rfl rfl ⟨_, rfl, H⟩
  have J84 : (fI s a1 1 < 4 ∨ 6 < fI s a1 1) → wk iv L h0 (d + 1) 240 84 [lr a0, lr a1, li a2, li a3] [] s (qa F) := fun h => by
    replace H := H.2.2.2 h
    refine w_aload_n rfl rfl ?_
    obtain ⟨g18, H⟩ := H
    refine c_getr rfl rfl rfl g18 ?_
    refine w_iconst (n := 1) rfl rfl ?_
    refine w_iload_n rfl rfl ?_
    refine w_iload_n rfl rfl ?_
    refine w_icmp_ge rfl (fun h => ?_) (fun h => ?_)
    · replace H := H.1 h
      refine w_iconst (n := 0) rfl rfl ?_
      obtain ⟨g19, H⟩ := H
      refine c_virt (p := (fR s a0 0)) (as := [vi 1, vi 0]) (r := []) rfl rfl rfl rfl rfl rfl g19 (wc_mono H (Nat.le_refl _) ?_)
      rintro _ s20 ⟨r21, rfl, H⟩
      show wk iv L h0 (d + 1) 240 102 [lr a0, lr a1, li a2, li a3] [vr r21] s20 (qa F)
      exact w_aret rfl rfl ⟨_, rfl, H⟩
    · replace H := H.2 h
      refine w_iconst (n := 1) rfl rfl ?_
      refine w_goto rfl ?_
      obtain ⟨g22, H⟩ := H
      refine c_virt (p := (fR s a0 0)) (as := [vi 1, vi 1]) (r := []) rfl rfl rfl rfl rfl rfl g22 (wc_mono H (Nat.le_refl _) ?_)
      rintro _ s23 ⟨r24, rfl, H⟩
      show wk iv L h0 (d + 1) 240 102 [lr a0, lr a1, li a2, li a3] [vr r24] s23 (qa F)
      exact w_aret rfl rfl ⟨_, rfl, H⟩
  refine w_tsw (td := 84) (ts := [32, 44, 56]) rfl rfl rfl rfl rfl rfl (fun h => J84 (by omega)) ?_
  exact swA_c (fun h => J32 (by omega)) (swA_c (fun h => J44 (by omega)) (swA_c (fun h => J56 (by omega)) (swA_n)))

/-- HoleDesk$Worker.goOnSights(LHoleDesk$Seen;I)LHoleDesk$Seen; -/
theorem D244 {iv : List (Int × Int)} {L : Nat} {h0 : MH} {d : Nat} {s : SC} {a0 : Nat} {a1 : Nat} {a2 : Int} {F : Nat → SC → Prop} (H : wk iv L h0 (d + 1) 244 5 [lr a0, lr a1, li a2, lr 2, li 0] [] s (qa F)) : ck iv L h0 (d + 1) 244 [vr a0, vr a1, vi a2] s (qa F) := by
  show wk iv L h0 (d + 1) 244 0 [lr a0, lr a1, li a2] [] s (qa F)
  refine w_null rfl ?_
  refine w_astore_n rfl rfl ?_
  refine w_iconst (n := 0) rfl rfl ?_
  refine w_istore rfl rfl ?_
  exact wp_ls (sl_s (sl_s (sl_s (sl_s (sl_s (sl_0)))))) H

/-- HoleDesk$Worker.goOnSights(LHoleDesk$Seen;I)LHoleDesk$Seen; at 5 -/
theorem D244_5 {iv : List (Int × Int)} {L : Nat} {h0 : MH} {d : Nat} {s : SC} {l0 : Nat} {l1 : Nat} {l2 : Int} {l3 : Nat} {l4 : Int} {F : Nat → SC → Prop} (H : ((26 ≤ l4 → F l3 s) ∧ (l4 < 26 → (kl s l0 = 11) ∧ ck iv L h0 d 229 [vr l0, vr l1, vi l4] s (qa fun r3 s2 => ((r3 = 2 → (-2147483648 ≤ l4 + 1 ∧ l4 + 1 ≤ 2147483647) ∧ wk iv L h0 (d + 1) 244 5 [lr l0, lr l1, li l2, lr l3, li (l4 + 1)] [] s2 (qa F)) ∧ (r3 ≠ 2 → (kl s2 l0 = 11) ∧ ck iv L h0 d 241 [vr l0, vr r3, vi l2] s2 (qa fun r7 s6 => ((r7 ≠ 2 → (kl s6 l0 = 11) ∧ (kl s6 (fR s6 l0 0) = 6) ∧ ck iv L h0 d 201 [vr (fR s6 l0 0), vi l4, vr r7, vr l3] s6 (qa fun r11 s10 => (-2147483648 ≤ l4 + 1 ∧ l4 + 1 ≤ 2147483647) ∧ wk iv L h0 (d + 1) 244 5 [lr l0, lr l1, li l2, lr r11, li (l4 + 1)] [] s10 (qa F))) ∧ (r7 = 2 → F 2 s6))))))))) : wk iv L h0 (d + 1) 244 5 [lr l0, lr l1, li l2, lr l3, li l4] [] s (qa F) := by
  refine w_iload rfl rfl ?_
  refine w_bipush (n := 26) rfl rfl rfl ?_
  refine w_icmp_ge rfl (fun h => ?_) (fun h => ?_)
  · replace H := H.1 h
    refine w_aload_n rfl rfl ?_
    exact w_aret rfl rfl ⟨_, rfl, H⟩
  · replace H := H.2 h
    refine w_aload_n rfl rfl ?_
    refine w_aload_n rfl rfl ?_
    refine w_iload rfl rfl ?_
    obtain ⟨g1, H⟩ := H
    refine c_virt (p := l0) (as := [vr l1, vi l4]) (r := []) rfl rfl rfl rfl rfl rfl g1 (wc_mono H (Nat.le_refl _) ?_)
    rintro _ s2 ⟨r3, rfl, H⟩
    show wk iv L h0 (d + 1) 244 19 [lr l0, lr l1, li l2, lr l3, li l4] [vr r3] s2 (qa F)
    refine w_astore rfl rfl ?_
    refine w_aload rfl rfl ?_
    refine c_null rfl (fun h => ?_) (fun h => ?_)
    · replace H := H.1 h
      obtain ⟨g4, H⟩ := H
      refine w_iinc rfl rfl rfl g4 ?_
      refine w_goto rfl ?_
      exact wp_ls (sl_s (sl_s (sl_s (sl_s (sl_s (sl_0)))))) H
    · replace H := H.2 h
      refine w_aload_n rfl rfl ?_
      refine w_aload rfl rfl ?_
      refine w_iload_n rfl rfl ?_
      obtain ⟨g5, H⟩ := H
      refine c_virt (p := l0) (as := [vr r3, vi l2]) (r := []) rfl rfl rfl rfl rfl rfl g5 (wc_mono H (Nat.le_refl _) ?_)
      rintro _ s6 ⟨r7, rfl, H⟩
      show wk iv L h0 (d + 1) 244 33 [lr l0, lr l1, li l2, lr l3, li l4, lr r3] [vr r7] s6 (qa F)
      refine w_astore rfl rfl ?_
      refine w_aload rfl rfl ?_
      refine c_nonnull rfl (fun h => ?_) (fun h => ?_)
      · replace H := H.1 h
        refine w_aload_n rfl rfl ?_
        obtain ⟨g8, H⟩ := H
        refine c_getr rfl rfl rfl g8 ?_
        refine w_iload rfl rfl ?_
        refine w_aload rfl rfl ?_
        refine w_aload_n rfl rfl ?_
        obtain ⟨g9, H⟩ := H
        refine c_virt (p := (fR s6 l0 0)) (as := [vi l4, vr r7, vr l3]) (r := []) rfl rfl rfl rfl rfl rfl g9 (wc_mono H (Nat.le_refl _) ?_)
        rintro _ s10 ⟨r11, rfl, H⟩
        show wk iv L h0 (d + 1) 244 54 [lr l0, lr l1, li l2, lr l3, li l4, lr r3, lr r7] [vr r11] s10 (qa F)
        refine w_astore_n rfl rfl ?_
        obtain ⟨g12, H⟩ := H
        refine w_iinc rfl rfl rfl g12 ?_
        refine w_goto rfl ?_
        exact wp_ls (sl_s (sl_s (sl_s (sl_s (sl_s (sl_0)))))) H
      · replace H := H.2 h
        refine w_null rfl ?_
        exact w_aret rfl rfl ⟨_, rfl, H⟩
end
section
/-! The pools of the desk: cells for what is seen, taken anew: C201. -/
/-- a seen cell was taken -/
def STK (c f : SC) (p a : Nat) : Prop := (CX [(6, 3)] [p + 2] c f ∧ RMP c f ∧ fI f p 2 = fI c p 2 ∧ fI f p 3 = fI c p 3 + 1) ∧ (353 ≤ a ∧ a < nxt f ∧ kl f a = 7) ∧ (¬ LIV c p a ∧ YNG f p a ∧ (∀ x, LIV c p x → LIV f p x) ∧ ∀ x, YNG c p x → YNG f p x) ∧ PL2 f
section
variable {iv : List (Int × Int)} {L : Nat} {h0 : MH} {A A' : Int → Nat} {P : Nat → Prop} {c c0 e f : SC} {s s' w : SM} {t : Term} {d p : Nat} {ys : List (Nat × Nat)} {rs : List Nat}
def sini (c : SC) : SC := uR (uR (uI (nO c 6) (nxt c) 0 0) (nxt c) 1 2) (nxt c) 2 2
theorem sini_ok (h3 : 353 ≤ nxt c) : CX [] [] c (sini c) ∧ nxt (sini c) = nxt c + 1 ∧ slo (sini c) = slo c + 3 ∧ kl (sini c) (nxt c) = 7 ∧ (∀ a, aR (sini c) a = aR c a) ∧ ∀ a y, a < nxt c → fI (sini c) a y = fI c a y ∧ kl (sini c) a = kl c a := by
  unfold sini
  refine ⟨?_, rfl, rfl, ?_, fun a => rfl, fun a y ha => ⟨?_, ?_⟩⟩
  · have hI : ∀ {e : SC} {y : Nat} {z : Int}, CX [] [] c e → CX [] [] c (uI e (nxt c) y z) := fun h => h.uI (fun q => absurd q (Nat.lt_irrefl _))
    have hR : ∀ {e : SC} {y z : Nat}, CX [] [] c e → CX [] [] c (uR e (nxt c) y z) := fun h => h.uR (fun q => absurd q (Nat.lt_irrefl _))
    exact hR (hR (hI CX.rf.nO))
  · simp only [kl_uI, kl_uR, kl_nO]; rw [if_pos trivial]
  · simp only [fI_uI, fI_uR, fI_nO]
    have : ¬ (a = nxt c) := by omega
    simp [this]
  · simp only [kl_uI, kl_uR, kl_nO]
    rw [if_neg (by omega)]
theorem sini_c {F : SC → Prop} (h3 : 353 ≤ nxt c) (H : F (sini c)) : ck iv L h0 d 202 [vr (nxt c)] (nO c 6) (qv F) := C202 ⟨by omega, by rw [kl_nO, if_pos rfl], H⟩
/-- one cell more in use -/
theorem stk_1 (hX : FIX c) (hp : p = 177 ∨ p = 180) (hP : PL2 c) (hu : fI c p 3 < 320) (ha : aR c (p + 2) (fI c p 3) ≠ 2) : STK c (uI c p 3 (fI c p 3 + 1)) p (aR c (p + 2) (fI c p 3)) := by
  obtain ⟨k1, k2, k3, k4, k5, k6, k7⟩ := hX.pl hp
  obtain ⟨q1, q2, q3⟩ := hP
  obtain ⟨⟨⟨a1, a2⟩, a3, a4⟩, a5, a6⟩ := q1 p hp
  obtain ⟨b1, b2, b3⟩ := (a6 _ a3 hu).resolve_left ha
  have h353 := hX.2.2.1
  have n3 : fI (uI c p 3 (fI c p 3 + 1)) p 3 = fI c p 3 + 1 := by rw [fI_uI, if_pos ⟨rfl, rfl⟩]
  have n2 : fI (uI c p 3 (fI c p 3 + 1)) p 2 = fI c p 2 := by rw [fI_uI, if_neg (by omega)]
  have hne7 : ∀ i, 0 ≤ i → i < 620 → aR c (p + 1) i ≠ aR c (p + 2) (fI c p 3) := fun i i0 i1 w => by
    rcases a5 i i0 i1 with z | ⟨-, -, z⟩
    · exact ha (w ▸ z)
    · rw [w, b3] at z; omega
  have hLL : ∀ x, LIV c p x → LIV (uI c p 3 (fI c p 3 + 1)) p x := fun x hx => ⟨hx.1, fun i i0 i1 => hx.2.1 i (by rw [n2] at i0; exact i0) i1, fun i i0 i1 => hx.2.2 i (by rw [n3] at i0; omega) i1⟩
  refine ⟨⟨CX.rf.uI (fun _ => by unfold ky; rw [if_neg (by omega), k1]; decide), RMP.rf, n2, n3⟩, ⟨b1, b2, b3⟩, ⟨fun w => w.2.2 _ (Int.le_refl _) hu rfl, ⟨⟨⟨b1, b2⟩, fun i i0 i1 w => ?_, fun i i0 i1 w => ?_⟩, fun q hq hn => ⟨fun i i0 i1 w => ?_, fun i i0 i1 w => hn (q3 q p i _ hq hp i0 i1 a3 hu w (by rw [show aR c (q + 2) i = aR c (p + 2) (fI c p 3) from w]; exact ha)).1⟩⟩, hLL, yng_up hLL (fun q i hq hn => ⟨rfl, rfl⟩)⟩, ⟨fun q hq => ?_, q2, q3⟩⟩
  · rw [n2] at i0
    exact hne7 i (by omega) i1 w
  · rw [n3] at i0
    have w : aR c (p + 2) i = aR c (p + 2) (fI c p 3) := w
    have := (q3 p p i (fI c p 3) hp hp (by omega) i1 a3 hu w (by rw [w]; exact ha)).2
    omega
  · rcases (q1 q hq).2.1 i i0 i1 with z | ⟨-, -, z⟩
    · exact ha ((show aR c (q + 1) i = aR c (p + 2) (fI c p 3) from w) ▸ z)
    · rw [show aR c (q + 1) i = aR c (p + 2) (fI c p 3) from w, b3] at z; omega
  · obtain ⟨⟨⟨c1, c2⟩, c3, c4⟩, c5, c6⟩ := q1 q hq
    refine ⟨?_, c5, c6⟩
    by_cases w : q = p
    · subst w
      rw [n2, n3]
      exact ⟨⟨a1, a2⟩, by omega, by omega⟩
    · rw [fI_uI, if_neg (fun z => w z.2), fI_uI, if_neg (fun z => w z.2)]
      exact ⟨⟨c1, c2⟩, c3, c4⟩
/-- a cell made, kept in the pool -/
theorem stk_2 (hX : FIX c) (hp : p = 177 ∨ p = 180) (hP : PL2 c) (hu : fI c p 3 < 320) (ha : aR c (p + 2) (fI c p 3) = 2) : STK c (uI (uB (sini c) (p + 2) (fI c p 3) (nxt c)) p 3 (fI c p 3 + 1)) p (nxt c) := by
  obtain ⟨k1, k2, k3, k4, k5, k6, k7⟩ := hX.pl hp
  obtain ⟨q1, q2, q3⟩ := hP
  have hPp := q1 p hp
  obtain ⟨⟨⟨a1, a2⟩, a3, a4⟩, a5, a6⟩ := hPp
  have h353 := hX.2.2.1
  obtain ⟨v1, v2, v3, v4, v5, v6⟩ := sini_ok h353
  generalize hg : sini c = g at v1 v2 v3 v4 v5 v6
  generalize hu' : fI c p 3 = u at *
  have gx : CX [(6, 3)] [p + 2] c (uI (uB g (p + 2) u (nxt c)) p 3 (u + 1)) := by
    refine CX.uI (CX.uB (v1.up (fun _ w => by cases w) (fun _ w => by cases w)) (fun _ => ?_)) (fun _ => ?_)
    · unfold rk; rw [if_pos (by omega)]; exact List.mem_singleton.mpr rfl
    · rw [kl_uB, (v6 p 0 (by omega)).2, k1]; unfold ky; rw [if_neg (by omega)]; decide
  have eI : ∀ a y, a < nxt c → fI (uI (uB g (p + 2) u (nxt c)) p 3 (u + 1)) a y = if y = 3 ∧ a = p then u + 1 else fI c a y := fun a y h => by rw [fI_uI, fI_uB, (v6 a y h).1]
  have eB : ∀ a i, aR (uI (uB g (p + 2) u (nxt c)) p 3 (u + 1)) a i = if a = p + 2 ∧ i = u then nxt c else aR c a i := fun a i => by rw [aR_uI, aR_uB, v5]
  have eK : ∀ a, a < nxt c → kl (uI (uB g (p + 2) u (nxt c)) p 3 (u + 1)) a = kl c a := fun a h => by rw [kl_uI, kl_uB, (v6 a 0 h).2]
  have eN : nxt (uI (uB g (p + 2) u (nxt c)) p 3 (u + 1)) = nxt c + 1 := v2
  have eS : slo (uI (uB g (p + 2) u (nxt c)) p 3 (u + 1)) = slo c + 3 := v3
  have e10 : kl (uI (uB g (p + 2) u (nxt c)) p 3 (u + 1)) (nxt c) = 7 := v4
  generalize uI (uB g (p + 2) u (nxt c)) p 3 (u + 1) = f at gx eI eB eK eN eS e10
  have f2 : fI f p 2 = fI c p 2 := by rw [eI p 2 (by omega), if_neg (by omega)]
  have f3 : fI f p 3 = u + 1 := by rw [eI p 3 (by omega), if_pos ⟨rfl, rfl⟩]
  have rowlt : ∀ q i, (q = 177 ∨ q = 180) → 0 ≤ i → i < 620 → aR c (q + 1) i < nxt c := fun q i hq i0 i1 => by
    rcases (q1 q hq).2.1 i i0 i1 with z | z <;> omega
  have rowlt2 : ∀ q i, (q = 177 ∨ q = 180) → 0 ≤ i → i < 320 → aR c (q + 2) i < nxt c := fun q i hq i0 i1 => by
    rcases (q1 q hq).2.2 i i0 i1 with z | z <;> omega
  have s2 : ∀ q i, (q = 177 ∨ q = 180) → aR f (q + 1) i = aR c (q + 1) i := fun q i hq => by rw [eB, if_neg (by omega)]
  have s1 : ∀ q i, (q = 177 ∨ q = 180) → ¬ (q = p ∧ i = u) → aR f (q + 2) i = aR c (q + 2) i := fun q i hq h => by rw [eB, if_neg (by omega)]
  have s0 : aR f (p + 2) u = nxt c := by rw [eB, if_pos ⟨rfl, rfl⟩]
  have hphi : PHI f + 1 = PHI c := by
    have hd : ∀ q, q ≠ p + 2 → aR f q = aR c q := fun q hq => by funext i; rw [eB, if_neg (fun z => hq z.1)]
    have hup : cnz (aR f (p + 2)) 320 + 1 = cnz (aR c (p + 2)) 320 := cnz_up (x := nxt c) ha (by omega) (fun i => by rw [eB]; simp) 320 a3 hu
    unfold PHI
    rcases hp with rfl | rfl
    · rw [hd 178 (by decide), hd 181 (by decide), hd 182 (by decide)]
      have hup : cnz (aR f 179) 320 + 1 = cnz (aR c 179) 320 := hup
      omega
    · rw [hd 178 (by decide), hd 179 (by decide), hd 181 (by decide)]
      have hup : cnz (aR f 182) 320 + 1 = cnz (aR c 182) 320 := hup
      omega
  have hLL : ∀ x, LIV c p x → LIV f p x := fun x hx => by
    refine ⟨⟨hx.1.1, by have := hx.1.2; omega⟩, fun i i0 i1 => ?_, fun i i0 i1 => ?_⟩
    · rw [f2] at i0
      rw [s2 p i hp]
      exact hx.2.1 i i0 i1
    · rw [f3] at i0
      rw [s1 p i hp (by omega)]
      exact hx.2.2 i (by omega) i1
  refine ⟨⟨gx, ⟨⟨by omega, by omega⟩, by omega, fun a ha => eK a ha, fun a a1 a2 => by rw [show a = nxt c by omega, e10]; decide⟩, f2, by rw [hu']; exact f3⟩, ⟨by omega, by omega, e10⟩, ⟨fun w => by have := w.1.2; omega, ⟨⟨⟨by omega, by omega⟩, fun i i0 i1 w => ?_, fun i i0 i1 w => ?_⟩, fun q hq hn => ⟨fun i i0 i1 w => ?_, fun i i0 i1 w => ?_⟩⟩, hLL, yng_up hLL (fun q i hq hn => ⟨s2 q i hq, s1 q i hq (fun z => hn z.1)⟩)⟩, ⟨fun q hq => ?_, fun r q i j hr hq i0 i1 j0 j1 he hn => ?_, fun r q i j hr hq i0 i1 j0 j1 he hn => ?_⟩⟩
  · rw [f2] at i0
    rw [s2 p i hp] at w
    have := rowlt p i hp (by omega) i1
    omega
  · rw [f3] at i0
    rw [s1 p i hp (by omega)] at w
    have := rowlt2 p i hp (by omega) i1
    omega
  · rw [s2 q i hq] at w
    have := rowlt q i hq i0 i1
    omega
  · rw [s1 q i hq (fun z => hn z.1)] at w
    have := rowlt2 q i hq i0 i1
    omega
  · obtain ⟨⟨⟨c1, c2⟩, c3, c4⟩, c5, c6⟩ := q1 q hq
    refine ⟨?_, fun i i0 i1 => ?_, fun i i0 i1 => ?_⟩
    · rw [eI q 2 (by omega), eI q 3 (by omega), if_neg (show ¬ (2 = 3 ∧ q = p) by omega)]
      by_cases w : q = p
      · rw [if_pos ⟨rfl, w⟩]; exact ⟨⟨c1, c2⟩, by omega, by omega⟩
      · rw [if_neg (fun z => w z.2)]; exact ⟨⟨c1, c2⟩, c3, c4⟩
    · rw [s2 q i hq]
      refine (c5 i i0 i1).imp id (fun z => ⟨z.1, by omega, ?_⟩)
      rw [eK _ z.2.1]; exact z.2.2
    · by_cases w : q = p ∧ i = u
      · rw [w.1, w.2, s0]; exact Or.inr ⟨by omega, by omega, e10⟩
      · rw [s1 q i hq w]
        refine (c6 i i0 i1).imp id (fun z => ⟨z.1, by omega, ?_⟩)
        rw [eK _ z.2.1]; exact z.2.2
  · rw [s2 r i hr] at he hn
    rw [s2 q j hq] at he
    exact q2 r q i j hr hq i0 i1 j0 j1 he hn
  · by_cases w : r = p ∧ i = u
    · by_cases w' : q = p ∧ j = u
      · exact ⟨w.1.trans w'.1.symm, w.2.trans w'.2.symm⟩
      · rw [w.1, w.2, s0, s1 q j hq w'] at he
        have := rowlt2 q j hq j0 j1
        omega
    · by_cases w' : q = p ∧ j = u
      · rw [w'.1, w'.2, s0, s1 r i hr w] at he
        have := rowlt2 r i hr i0 i1
        omega
      · rw [s1 r i hr w] at he hn
        rw [s1 q j hq w'] at he
        exact q3 r q i j hr hq i0 i1 j0 j1 he hn
end
def snY : List (Nat × Nat) := [(6, 3), (7, 0), (7, 1), (7, 2)]
/-- what is seen is new at a -/
def SNW (c e : SC) (p a : Nat) (x : Int) (v g : Nat) : Prop := (CX snY [p + 2] c e ∧ RMP c e ∧ fI e p 2 = fI c p 2 ∧ fI e p 3 = fI c p 3 + 1) ∧ ((STY (LIV c p) (LIV e p) c e ∧ STY (YNG c p) (YNG e p) c e) ∧ YNG e p a ∧ ¬ LIV c p a ∧ PL2 e) ∧ (353 ≤ a ∧ a < nxt e ∧ kl e a = 7) ∧ fI e a 0 = x ∧ fR e a 1 = v ∧ fR e a 2 = g
section
variable {iv : List (Int × Int)} {L : Nat} {h0 : MH} {A A' : Int → Nat} {P : Nat → Prop} {c c0 e f : SC} {s s' w : SM} {t : Term} {d p a v g : Nat} {x : Int} {ys : List (Nat × Nat)} {rs : List Nat}
theorem snw_of (hX : FIX c) (hp : p = 177 ∨ p = 180) (h : STK c f p a) : SNW c (uR (uR (uI f a 0 x) a 1 v) a 2 g) p a x v g := by
  obtain ⟨⟨h1, h2, h2a, h2b⟩, ⟨h3, h4, h5⟩, ⟨h6, h7, h8, h8'⟩, h9⟩ := h
  have h353 := hX.2.2.1
  have pa : p ≠ a := by omega
  have hky : ky a (kl f a) = 7 := by unfold ky; rw [if_neg (by omega), h5]
  have hx : CX snY [] f (uR (uR (uI f a 0 x) a 1 v) a 2 g) := CX.uR (CX.uR (CX.uI CX.rf (fun _ => by rw [hky]; decide)) (fun _ => by show (ky a (kl f a), 1) ∈ snY; rw [hky]; decide)) (fun _ => by show (ky a (kl f a), 2) ∈ snY; rw [hky]; decide)
  have ho : ∀ u z, u ≠ a → fI (uR (uR (uI f a 0 x) a 1 v) a 2 g) u z = fI f u z ∧ fR (uR (uR (uI f a 0 x) a 1 v) a 2 g) u z = fR f u z := fun u z hu => by
    simp only [fI_uI, fI_uR, fR_uI, fR_uR, hu, and_false, if_false]
    exact ⟨trivial, trivial⟩
  have eL : ∀ u, LIV f p u → LIV (uR (uR (uI f a 0 x) a 1 v) a 2 g) p u := LIV_eq rfl (fun v => (ho p v pa).1) (fun _ => rfl)
  have eY : ∀ u, YNG f p u → YNG (uR (uR (uI f a 0 x) a 1 v) a 2 g) p u := yng_up eL (fun q i hq hn => ⟨rfl, rfl⟩)
  have same : ∀ u, LIV c p u → (kl c u = 10 ∨ kl c u = 7 → kl (uR (uR (uI f a 0 x) a 1 v) a 2 g) u = kl c u ∧ ∀ y, y < 7 → fI (uR (uR (uI f a 0 x) a 1 v) a 2 g) u y = fI c u y ∧ fR (uR (uR (uI f a 0 x) a 1 v) a 2 g) u y = fR c u y) := fun u hu hku => by
    have ua : u ≠ a := fun w => h6 (w ▸ hu)
    refine ⟨h1.k hu.1.2, fun z _ => ?_⟩
    obtain ⟨o1, o2⟩ := ho u z ua
    rw [o1, o2]
    have hky : ky u (kl c u) = kl c u := by have := hu.1.1; unfold ky; rw [if_neg (by omega)]
    exact ⟨h1.i hu.1.2 (by rw [hky]; simp; omega), h1.r hu.1.2 (by rw [hky]; simp; omega)⟩
  refine ⟨⟨(h1.up (by decide) (fun _ w => w)).tr (hx.up (fun _ w => w) (fun _ w => by cases w)), h2, by rw [(ho p 2 pa).1]; exact h2a, by rw [(ho p 3 pa).1]; exact h2b⟩, ⟨⟨fun u hu => ⟨eL u (h8 u hu), same u hu⟩, fun u hu => ⟨eY u (h8' u hu), same u hu.1⟩⟩, eY a h7, h6, PL2_eq h9 rfl (fun q z hq => (ho q z (by omega)).1) (fun _ => rfl) (fun _ => rfl)⟩, ⟨h3, h4, h5⟩, ?_⟩
  · simp only [fI_uI, fI_uR, fR_uI, fR_uR, and_true]
    simp
theorem bind_c (hX : FIX c) (hp : p = 177 ∨ p = 180) (hP : PL2 c) (hu : fI c p 3 < 320) {F : Nat → SC → Prop} (hF : ∀ e a, SNW c e p a x v g → F a e) : ck iv L h0 (d + 1) 201 [vr p, vi x, vr v, vr g] c (qa F) := by
  obtain ⟨k1, k2, k3, k4, k5, k6, k7⟩ := hX.pl hp
  obtain ⟨⟨⟨a1, a2⟩, a3, a4⟩, a5, a6⟩ := hP.1 p hp
  have h353 := hX.2.2.1
  obtain ⟨v1, v2, v3, v4, v5, v6⟩ := sini_ok h353
  have pn : p < nxt c := by omega
  have p1n : p + 2 < nxt c := by omega
  refine C201 ⟨k1, by rw [k3, k6]; omega, fun h => ?_, fun h => ?_⟩
  · rw [k3, k7] at h
    simp only [k3, k6, k7]
    refine ⟨trivial, ⟨a3, h⟩, fun w => ?_, fun w => ?_⟩
    · exact ⟨by omega, ((a6 _ a3 h).resolve_left w).2.2, hF _ _ (snw_of hX hp (stk_1 hX hp hP h w))⟩
    · refine ⟨h353, by omega, sini_c h353 ?_⟩
      have q0 : fR (sini c) p 1 = p + 2 := by rw [v1.r pn (fun q => by cases q), k3]
      have q1 : fI (sini c) p 3 = fI c p 3 := (v6 p 3 pn).1
      have q2 : kl (sini c) (p + 2) = 107 := by rw [(v6 (p + 2) 0 p1n).2, k6]
      have q3 : le (sini c) (p + 2) = 320 := by rw [v1.l p1n, k7]
      have q4 : kl (sini c) p = 6 := by rw [(v6 p 0 pn).2, k1]
      have q5 : aR (uB (sini c) (p + 2) (fI c p 3) (nxt c)) (p + 2) (fI c p 3) = nxt c := by rw [aR_uB, if_pos ⟨rfl, rfl⟩]
      simp only [q0, q1, q2, q3, q4, q5]
      exact ⟨trivial, ⟨a3, h⟩, Or.inr v4, trivial, by omega, trivial, ⟨a3, h⟩, v4, hF _ _ (snw_of hX hp (stk_2 hX hp hP h w))⟩
  · rw [k3, k7] at h; omega
end
end
section
/-! Working by the desk: what stays, what comes. -/
def wkY : List (Nat × Nat) := [(6, 2), (6, 3), (7, 0), (7, 1), (7, 2), (10, 0), (10, 1), (10, 2), (10, 3), (10, 4), (10, 5), (10, 6), (11, 3), (11, 4), (11, 5)]
def wkR : List Nat := [178, 179, 181, 182]
/-- the ground of a working -/
def DWX (A : Int → Nat) (c0 : SC) (σ : SM) (t : Term) (p : Nat) : Prop := (R1 A c0 σ t ∧ SHT σ t ∧ NB σ ∧ RSN σ t) ∧ (p = 177 ∨ p = 180) ∧ ∀ b, b ∈ fl t → σ.2 21 b = (jdg σ t).2.2 b ∧ (σ.2 21 b = 1 → σ.2 9 b = 3)
/-- in the midst of it -/
def DWS (c0 : SC) (p : Nat) (most st kv ks : Int) (c : SC) : Prop := CX wkY wkR c0 c ∧ PL2 c ∧ (fR c 176 0 = p ∧ fI c 176 2 = most ∧ fI c 176 3 = st ∧ fI c 176 4 = -1 ∧ fI c 176 5 = -9) ∧ (0 ≤ st ∧ st ≤ most ∧ most ≤ 300) ∧ fI c p 2 + 2 * (most - st) + kv ≤ 610 ∧ fI c p 3 + (most - st) + ks ≤ 310
/-- behind it -/
def DWP (A : Int → Nat) (p : Nat) (kv k0 k1 : Int) (c : SC) (st : Int) (R : RS) (a : Nat) (e : SC) : Prop := (CX wkY wkR c e ∧ RMP c e) ∧ ((STY (LIV c p) (LIV e p) c e ∧ STY (YNG c p) (YNG e p) c e) ∧ PL2 e) ∧ (fI e 176 3 = R.1 ∧ fI e 176 4 = (if R.2.1 = 0 then -1 else R.2.1) ∧ fI e 176 5 = R.2.2.1) ∧ (fI e p 2 ≤ fI c p 2 + 2 * (R.1 - st) + kv ∧ fI e p 3 ≤ fI c p 3 + (R.1 - st) + (if R.2.1 = 0 then k0 else k1)) ∧ (R.2.1 = 0 → DV A e (YNG e p) R.2.2.2 a []) ∧ (R.2.1 ≠ 0 → a = 2)
theorem STY.rf {P : Nat → Prop} {c : SC} : STY P P c c := fun _ h => ⟨h, fun _ => ⟨rfl, fun _ _ => ⟨rfl, rfl⟩⟩⟩
theorem STY.tr {P Q R : Nat → Prop} {c e f : SC} (h1 : STY P Q c e) (h2 : STY Q R e f) : STY P R c f := fun a ha => by
  obtain ⟨q1, q2⟩ := h1 a ha
  obtain ⟨r1, r2⟩ := h2 a q1
  refine ⟨r1, fun k => ?_⟩
  obtain ⟨k1, k2⟩ := q2 k
  obtain ⟨l1, l2⟩ := r2 (by rw [k1]; exact k)
  exact ⟨l1.trans k1, fun y hy => ⟨(l2 y hy).1.trans (k2 y hy).1, (l2 y hy).2.trans (k2 y hy).2⟩⟩
theorem DWP.up {A : Int → Nat} {p a : Nat} {kv k0 k1 kv' k0' k1' st : Int} {c e : SC} {R : RS} (h : DWP A p kv k0 k1 c st R a e) (h1 : kv ≤ kv') (h2 : k0 ≤ k0') (h3 : k1 ≤ k1') : DWP A p kv' k0' k1' c st R a e := by
  obtain ⟨a1, a2, a3, a4, a5, a6⟩ := h
  refine ⟨a1, a2, a3, ⟨by omega, ?_⟩, a5, a6⟩
  have := a4.2
  split at this <;> omega
theorem DWP.tr {A : Int → Nat} {p a b : Nat} {kv k0 k1 kv' k0' k1' st : Int} {c e f : SC} {R R' : RS} (h : DWP A p kv k0 k1 c st R a e) (hR : R.2.1 = 0) (h' : DWP A p kv' k0' k1' e R.1 R' b f) : DWP A p (kv + kv') (k0 + k0') (k0 + k1') c st R' b f := by
  obtain ⟨a1, a2, a3, a4, a5, a6⟩ := h
  obtain ⟨b1, b2, b3, b4, b5, b6⟩ := h'
  rw [if_pos hR] at a4
  refine ⟨⟨a1.1.tr b1.1, a1.2.tr b1.2⟩, ⟨⟨a2.1.1.tr b2.1.1, a2.1.2.tr b2.1.2⟩, b2.2⟩, b3, ⟨by omega, ?_⟩, b5, b6⟩
  have := b4.2
  split at this <;> omega
theorem DWS.up {c0 c : SC} {p : Nat} {most st kv ks kv' ks' : Int} (h : DWS c0 p most st kv ks c) (h1 : kv' ≤ kv) (h2 : ks' ≤ ks) : DWS c0 p most st kv' ks' c := by
  obtain ⟨a1, a2, a3, a4, a5, a6⟩ := h
  exact ⟨a1, a2, a3, a4, by omega, by omega⟩
theorem DWP.cx {A : Int → Nat} {p a : Nat} {kv k0 k1 st : Int} {c e : SC} {R : RS} (h : DWP A p kv k0 k1 c st R a e) : CX wkY wkR c e := h.1.1
section
variable {iv : List (Int × Int)} {L : Nat} {h0 : MH} {A A' : Int → Nat} {P : Nat → Prop} {c c0 e f : SC} {σ s s' w : SM} {t : Term} {d p a b g x y n : Nat} {most st kv ks kv' ks' k0 k1 k q : Int} {ys : List (Nat × Nat)} {rs : List Nat} {R : RS}
theorem DWX.fix (h : DWX A c0 σ t p) : FIX c0 := h.1.1.1.1
theorem DWX.fx (h : DWX A c0 σ t p) (hx : CX wkY wkR c0 c) : FIX c := h.fix.x hx (by decide) (by decide)
theorem FIX.wk (h : FIX c) : kl c 176 = 11 ∧ kl c 177 = 6 ∧ kl c 180 = 6 := by simp only [h.1]; exact ⟨trivial, trivial, trivial⟩
theorem DWX.wk (h : DWX A c0 σ t p) (hx : CX wkY wkR c0 c) : kl c 176 = 11 ∧ kl c p = 6 ∧ p < nxt c := by
  have hX := h.fx hx
  have := hX.2.2.1
  obtain ⟨q1, q2, q3⟩ := hX.wk
  refine ⟨q1, ?_, by have := h.2.1; omega⟩
  rcases h.2.1 with e | e <;> rw [e] <;> assumption
/-- a field of the worker that stays -/
theorem wk_i (hX : FIX c) (hx : CX wkY wkR c e) (hy : y = 0 ∨ y = 1 ∨ y = 2 ∨ y = 6) : fI e 176 y = fI c 176 y ∧ fR e 176 y = fR c 176 y := by
  have h353 := hX.2.2.1
  have hk : ky 176 (kl c 176) = 11 := by rw [hX.wk.1]; rfl
  have : (ky 176 (kl c 176), y) ∉ wkY := by rw [hk]; rcases hy with e | e | e | e <;> rw [e] <;> decide
  exact ⟨hx.i (by omega) this, hx.r (by omega) this⟩
theorem DWS.nx (hX : FIX c) (h : DWS c0 p most st kv ks c) (hw : DWP A p kv' k0 k1 c st R a e) (h1 : st ≤ R.1 ∧ R.1 ≤ most) (h2 : R.2.1 = 0 ∧ R.2.2.1 = -9) : DWS c0 p most R.1 (kv - kv') (ks - k0) e := by
  obtain ⟨a1, a2, a3, a4, a5, a6⟩ := h
  obtain ⟨b1, b2, b3, b4, b5, b6⟩ := hw
  rw [if_pos h2.1] at b4
  rw [if_pos h2.1] at b3
  refine ⟨a1.tr b1.1, b2.2, ⟨?_, ?_, b3.1, b3.2.1, b3.2.2.trans h2.2⟩, by omega, by omega, by omega⟩
  · rw [(wk_i hX b1.1 (Or.inl rfl)).2]; exact a3.1
  · rw [(wk_i hX b1.1 (Or.inr (Or.inr (Or.inl rfl)))).1]; exact a3.2.1
/-- the worker's own fields over a new value or sight -/
theorem wk_x (hX : FIX c) (hx : CX ys rs c e) (h1 : ∀ y, (11, y) ∉ ys) (y : Nat) : fI e 176 y = fI c 176 y ∧ fR e 176 y = fR c 176 y := by
  have h353 := hX.2.2.1
  have hk : ky 176 (kl c 176) = 11 := by rw [hX.wk.1]; rfl
  have : (ky 176 (kl c 176), y) ∉ ys := by rw [hk]; exact h1 y
  exact ⟨hx.i (by omega) this, hx.r (by omega) this⟩
theorem va11 (y : Nat) : (11, y) ∉ vaY := by unfold vaY; simp
theorem sn11 (y : Nat) : (11, y) ∉ snY := by unfold snY; simp
/-- a new value -/
theorem dw_new {V : Term} {n : Int} (hD : DWX A c0 σ t p) (hS : DWS c0 p most st kv ks c) (hw : VNW c e p a k n b x y g q) (hV : DV A e (YNG e p) V a []) : DWP A p 1 0 0 c st (rok st V) a e := by
  obtain ⟨a1, a2, a3, a4, a5, a6⟩ := hS
  obtain ⟨⟨b1, b2, b3, b4⟩, ⟨b5, -, -, b6⟩, b7, b8, b9⟩ := hw
  have hX := hD.fx a1
  obtain ⟨e3, e4, e5⟩ : fI e 176 3 = fI c 176 3 ∧ fI e 176 4 = fI c 176 4 ∧ fI e 176 5 = fI c 176 5 := ⟨(wk_x hX b1 va11 3).1, (wk_x hX b1 va11 4).1, (wk_x hX b1 va11 5).1⟩
  refine ⟨⟨b1.up (by decide) (fun u hu => ?_), b2⟩, ⟨b5, b6⟩, ⟨e3.trans a3.2.2.1, e4.trans a3.2.2.2.1, e5.trans a3.2.2.2.2⟩, ⟨by show fI e p 2 ≤ fI c p 2 + 2 * (st - st) + 1; omega, by show fI e p 3 ≤ fI c p 3 + (st - st) + 0; omega⟩, fun _ => hV, fun w => absurd rfl w⟩
  simp only [List.mem_singleton] at hu
  subst hu
  rcases hD.2.1 with rfl | rfl <;> decide
/-- one more is seen -/
theorem dw_bind {E V : Term} {l : List (Int × Nat)} {v : Nat} {z : Int} (hD : DWX A c0 σ t p) (hS : DWS c0 p most st kv ks c) (hE : isE n E) (hg : CHN c (YNG c p) g l ∧ DV A c (YNG c p) E 2 l) (hv : isV V = true ∧ DV A c (YNG c p) V v []) (hv2 : v ≠ 2) (hw : SNW c e p a z v g) : DWP A p 0 1 1 c st (rok st .null) a e ∧ CHN e (YNG e p) a ((z, v) :: l) ∧ DV A e (YNG e p) (upE E z V) 2 ((z, v) :: l) := by
  obtain ⟨a1, a2, a3, a4, a5, a6⟩ := hS
  obtain ⟨⟨b1, b2, b3, b4⟩, ⟨b5, b5a, -, b6⟩, b7, b8, b9, b10⟩ := hw
  have hX := hD.fx a1
  obtain ⟨e3, e4, e5⟩ : fI e 176 3 = fI c 176 3 ∧ fI e 176 4 = fI c 176 4 ∧ fI e 176 5 = fI c 176 5 := ⟨(wk_x hX b1 sn11 3).1, (wk_x hX b1 sn11 4).1, (wk_x hX b1 sn11 5).1⟩
  refine ⟨⟨⟨b1.up (by decide) (fun u hu => ?_), b2⟩, ⟨b5, b6⟩, ⟨e3.trans a3.2.2.1, e4.trans a3.2.2.2.1, e5.trans a3.2.2.2.2⟩, ⟨by show fI e p 2 ≤ fI c p 2 + 2 * (st - st) + 0; omega, by show fI e p 3 ≤ fI c p 3 + (st - st) + 1; omega⟩, fun _ => trivial, fun w => absurd rfl w⟩, ⟨⟨b5a, b7.2.2⟩, b8, b9, hv2, ?_⟩, ?_⟩
  · simp only [List.mem_singleton] at hu
    subst hu
    rcases hD.2.1 with rfl | rfl <;> decide
  · rw [b10]; exact CHN.up b5.2 l _ hg.1
  · exact DV_push hv2 hv.1 (DV_up b5.2 _ V v [] (Nat.lt_succ_self _) hv.2) n E hE (DV_up b5.2 _ E 2 l (Nat.lt_succ_self _) hg.2)
/-- the cell of a value -/
theorem DV_kind {V : Term} {l : List (Int × Nat)} (hv : isV V = true) (h : DV A c P V a l) : (P a ∧ kl c a = 10) ∧ fI c a 0 = vkd V ∧ fI c a 6 = if hsL V = true then 1 else 0 := by
  cases V with
  | int z => obtain ⟨⟨h1, h2⟩, h3, h4⟩ := h; exact ⟨h1, h2, h4⟩
  | arg z => obtain ⟨⟨h1, h2⟩, h3, h4⟩ := h; exact ⟨h1, h2, h4⟩
  | index z => obtain ⟨⟨h1, h2⟩, h3, h4⟩ := h; exact ⟨h1, h2, h4⟩
  | sub b E =>
    cases b with
    | index b => obtain ⟨⟨h1, h2⟩, h3, h4, h5⟩ := h; exact ⟨h1, h2, h4⟩
    | _ => cases hv
  | add x y => obtain ⟨⟨h1, h2⟩, h3, h4⟩ := h; exact ⟨h1, h2, h3⟩
  | div b E =>
    cases b with
    | index b => obtain ⟨⟨h1, h2⟩, h3, h4, h5⟩ := h; exact ⟨h1, h2, h4⟩
    | _ => cases hv
  | length x => obtain ⟨⟨h1, h2⟩, h3, h4⟩ := h; exact ⟨h1, h2, h3⟩
  | rem b z =>
    cases b with
    | index b =>
      cases z with
      | elem x z =>
        cases z with
        | elem y E => obtain ⟨⟨h1, h2⟩, h3, h4, h5⟩ := h; exact ⟨h1, h2, h4⟩
        | _ => cases hv
      | _ => cases hv
    | _ => cases hv
  | _ => cases hv
theorem isleft_c {V : Term} {l : List (Int × Nat)} {F : Int → SC → Prop} (hv : isV V = true) (h : DV A c P V a l) (hF : F (if isW V = true then 1 else 0) c) : ck iv L h0 d 225 [vr a] c (qi F) := by
  obtain ⟨h1, h2, h3⟩ := DV_kind hv h
  rw [isW_kd hv] at hF
  refine C225 ⟨h1.2, fun q => ?_, fun q => ?_⟩
  · rw [decide_eq_false (by omega), if_neg (by decide)] at hF; exact hF
  · rw [decide_eq_true (by omega), if_pos rfl] at hF; exact hF
theorem DV_ne {V : Term} {l : List (Int × Nat)} (hv : isV V = true) (h : DV A c (YNG c p) V a l) : a ≠ 2 := by
  have := (DV_kind hv h).1.1.1.1.1
  omega
theorem DV_neL {V : Term} {l : List (Int × Nat)} (hv : isV V = true) (h : DV A c (LIV c p) V a l) : a ≠ 2 := by
  have := (DV_kind hv h).1.1.1.1
  omega
/-- it stopped -/
theorem dstop_c {how z : Int} {F : Nat → SC → Prop} (hD : DWX A c0 σ t p) (hS : DWS c0 p most st kv ks c) (hh : how ≠ 0) (hF : ∀ e, DWP A p 0 0 0 c st (rst st how z) 2 e → F 2 e) : ck iv L h0 d 232 [vr 176, vi how, vi z] c (qa F) := by
  obtain ⟨a1, a2, a3, a4, a5, a6⟩ := hS
  have hX := hD.fx a1
  obtain ⟨k1, k2, k3⟩ := hX.wk
  have hp : p ≠ 176 := by have := hD.2.1; omega
  have h353 := hX.2.2.1
  have hk : ky 176 (kl c 176) = 11 := by rw [k1]; rfl
  have hx : CX wkY wkR c (uI (uI c 176 4 how) 176 5 z) := CX.uI (CX.uI CX.rf (fun _ => by rw [hk]; decide)) (fun _ => by show (ky 176 (kl c 176), 5) ∈ wkY; rw [hk]; decide)
  have ei : ∀ u v, u ≠ 176 → fI (uI (uI c 176 4 how) 176 5 z) u v = fI c u v := fun u v hu => by simp only [fI_uI, hu, and_false, if_false]
  have e3 : fI (uI (uI c 176 4 how) 176 5 z) 176 3 = fI c 176 3 := by simp only [fI_uI]; simp
  have e4 : fI (uI (uI c 176 4 how) 176 5 z) 176 4 = how := by simp only [fI_uI]; simp
  have e5 : fI (uI (uI c 176 4 how) 176 5 z) 176 5 = z := by simp only [fI_uI]; simp
  have hLv : ∀ u, LIV c p u → LIV (uI (uI c 176 4 how) 176 5 z) p u := fun u hu => LIV_eq (f := c) (e := uI (uI c 176 4 how) 176 5 z) rfl (fun v => ei p v hp) (fun _ => rfl) u hu
  have hYv : ∀ u, YNG c p u → YNG (uI (uI c 176 4 how) 176 5 z) p u := yng_up hLv (fun q i hq hn => ⟨rfl, rfl⟩)
  refine C232 ⟨k1, hF _ ⟨⟨hx, RMP.rf⟩, ⟨⟨fun u hu => ⟨hLv u hu, fun _ => ⟨rfl, fun v _ => ⟨ei u v (by have := hu.1.1; omega), rfl⟩⟩⟩, fun u hu => ⟨hYv u hu, fun _ => ⟨rfl, fun v _ => ⟨ei u v (by have := hu.1.1.1; omega), rfl⟩⟩⟩⟩, PL2_eq a2 rfl (fun q v hq => ei q v (by omega)) (fun _ => rfl) (fun _ => rfl)⟩, ⟨e3.trans a3.2.2.1, ?_, e5⟩, ⟨?_, ?_⟩, fun w => absurd w hh, fun _ => rfl⟩⟩
  · show _ = if how = 0 then -1 else how
    rw [if_neg hh]; exact e4
  · rw [ei p 2 hp]; show fI c p 2 ≤ fI c p 2 + 2 * (st - st) + 0; omega
  · rw [ei p 3 hp]; show fI c p 3 ≤ fI c p 3 + (st - st) + (if how = 0 then 0 else 0); rw [if_neg hh]; omega
/-- a node of the sheet, as it lies while working -/
theorem DWX.node (h : DWX A c0 σ t p) (hx : CX wkY wkR c0 c) {b : Int} (hb : b ∈ fl t) : (kl c (A b) = 5 ∧ fI c (A b) 0 = b ∧ fI c (A b) 1 = σ.2 9 b ∧ fI c (A b) 4 = σ.2 10 b ∧ fI c (A b) 10 = σ.2 21 b) ∧ (0 ≤ σ.2 21 b ∧ σ.2 21 b ≤ 6 ∧ (σ.2 21 b = 1 → σ.2 9 b = 3)) ∧ (fR c (A b) 3 = A b + 1 ∧ kl c (A b + 1) = 103 ∧ le c (A b + 1) = pO (σ.2 9 b)) ∧ ∀ i, 0 ≤ i → i < pO (σ.2 9 b) → aR c (A b + 1) i = A (σ.2 14 (3 * b + i)) := by
  obtain ⟨⟨⟨⟨hX, hN, hH, hL⟩, -, hI, hJ⟩, hT, -⟩, -, hj⟩ := h
  obtain ⟨j1, j2⟩ := hj b hb
  obtain ⟨-, -, hJx⟩ := hJ
  obtain ⟨-, -, g1, g2, g3⟩ := hJx b hb
  have hbl := hT.lt hb
  obtain ⟨⟨n1, n2, n3, n4, n5, n6, n7, n8⟩, n9, n10⟩ := hN.2 b hbl.1 hbl.2.1
  have k5 : ky (A b) (kl c0 (A b)) = 5 := by rw [ky5 n10]; exact n1
  have hl : A b < nxt c0 := by omega
  have nk : ∀ y, (ky (A b) (kl c0 (A b)), y) ∉ wkY := fun y => by rw [k5]; unfold wkY; simp
  have hrk : rk (A b + 1) (kl c0 (A b + 1)) ∉ wkR := by
    rw [n2]; unfold rk wkR
    rcases n10 with e | e
    · rw [e]; decide
    · rw [if_neg (by omega)]; decide
  refine ⟨⟨(hx.k hl).trans n1, (hx.i hl (nk 0)).trans n4, (hx.i hl (nk 1)).trans n5, (hx.i hl (nk 4)).trans n8, ?_⟩, ⟨by rw [j1]; exact g2, by rw [j1]; exact g3, j2⟩, ⟨(hx.r hl (nk 3)).trans n7, (hx.k n9).trans n2, (hx.l n9).trans n3⟩, fun i i0 i1 => ?_⟩
  · rw [hx.i hl (nk 10), g1, j1]
  · rw [hx.ar n9 hrk]
    exact (hH.1 b hb).2.2 i i0 i1
end
end
section
/-! Working by the desk: values made, wholes reckoned, an act. -/
section
variable {iv : List (Int × Int)} {L : Nat} {h0 : MH} {A A' : Int → Nat} {P : Nat → Prop} {c c0 e f : SC} {σ s s' w : SM} {t : Term} {d p a g x y n : Nat} {b most st kv ks kv' ks' k0 k1 k q : Int} {ys : List (Nat × Nat)} {rs : List Nat} {R : RS} {X Y E : Term} {l : List (Int × Nat)}
theorem ck_mono {M d d' : Nat} {as : List VV} {F F' : Nat → SC → Prop} (h : ck iv L h0 d M as c (qa F)) (hd : d ≤ d') (hq : ∀ z s', F z s' → F' z s') : ck iv L h0 d' M as c (qa F') := wc_mono h hd (fun _ _ ⟨z, e, q⟩ => ⟨z, e, hq _ _ q⟩)
theorem dv_int {N : Int} (hw : VNW c e p a 0 N 2 2 2 2 (vfl 0)) (hN : inR N) : DV A e (YNG e p) (.int (Int32.ofInt N)) a [] := by
  obtain ⟨-, ⟨-, b1, -, -⟩, b2, b3, -⟩ := hw
  exact ⟨⟨⟨b1, b2.2.2⟩, b3.1⟩, by rw [b3.2.1, i_to hN], b3.2.2.2.2.2.2⟩
theorem dv_arg {N : Int} (hw : VNW c e p a 1 N 2 2 2 2 (vfl 1)) (hN : 0 ≤ N) : DV A e (YNG e p) (.arg N.toNat) a [] := by
  obtain ⟨-, ⟨-, b1, -, -⟩, b2, b3, -⟩ := hw
  exact ⟨⟨⟨b1, b2.2.2⟩, b3.1⟩, by rw [b3.2.1]; omega, b3.2.2.2.2.2.2⟩
theorem dv_index {N : Int} (hw : VNW c e p a 5 N 2 2 2 2 (vfl 5)) (hN : 0 ≤ N) : DV A e (YNG e p) (.index N.toNat) a [] := by
  obtain ⟨-, ⟨-, b1, -, -⟩, b2, b3, -⟩ := hw
  exact ⟨⟨⟨b1, b2.2.2⟩, b3.1⟩, by rw [b3.2.1]; omega, b3.2.2.2.2.2.2⟩
theorem dv_sub (hw : VNW c e p a 2 0 (A b) 2 2 g (vfl 2)) (hb : 0 ≤ b) (hg : CHN c (YNG c p) g l ∧ DV A c (YNG c p) E 2 l) : DV A e (YNG e p) (.sub (.index b.toNat) E) a [] := by
  obtain ⟨-, ⟨b0, b1, -, -⟩, b2, b3, -⟩ := hw
  refine ⟨⟨⟨b1, b2.2.2⟩, b3.1⟩, by rw [b3.2.2.1]; congr 1; omega, b3.2.2.2.2.2.2, l, ?_, DV_up b0.2 _ E 2 l (Nat.lt_succ_self _) hg.2⟩
  rw [b3.2.2.2.2.2.1]
  exact CHN.up b0.2 l g hg.1
theorem dv_div (hw : VNW c e p a 4 0 (A b) 2 2 g (vfl 4)) (hb : 0 ≤ b) (hg : CHN c (YNG c p) g l ∧ DV A c (YNG c p) E 2 l) : DV A e (YNG e p) (.div (.index b.toNat) E) a [] := by
  obtain ⟨-, ⟨b0, b1, -, -⟩, b2, b3, -⟩ := hw
  refine ⟨⟨⟨b1, b2.2.2⟩, b3.1⟩, by rw [b3.2.2.1]; congr 1; omega, b3.2.2.2.2.2.2, l, ?_, DV_up b0.2 _ E 2 l (Nat.lt_succ_self _) hg.2⟩
  rw [b3.2.2.2.2.2.1]
  exact CHN.up b0.2 l g hg.1
theorem dv_len (hw : VNW c e p a 6 0 2 x 2 2 1) (hx : DV A c (YNG c p) X x []) : DV A e (YNG e p) (.length X) a [] := by
  obtain ⟨-, ⟨b0, b1, -, -⟩, b2, b3, -⟩ := hw
  refine ⟨⟨⟨b1, b2.2.2⟩, b3.1⟩, b3.2.2.2.2.2.2, ?_⟩
  rw [b3.2.2.2.1]
  exact DV_up b0.2 _ X x [] (Nat.lt_succ_self _) hx
theorem dv_add (hX : isV X = true) (hY : isV Y = true) (hx : DV A c (YNG c p) X x []) (hy : DV A c (YNG c p) Y y []) (hw : VNW c e p a 3 0 2 x y 2 (if fI c x 6 ≠ 0 ∨ fI c y 6 ≠ 0 then 1 else 0)) : DV A e (YNG e p) (.add X Y) a [] := by
  obtain ⟨-, ⟨b0, b1, -, -⟩, b2, b3, -⟩ := hw
  obtain ⟨-, -, x6⟩ := DV_kind hX hx
  obtain ⟨-, -, y6⟩ := DV_kind hY hy
  refine ⟨⟨⟨b1, b2.2.2⟩, b3.1⟩, ?_, ?_, ?_⟩
  · rw [b3.2.2.2.2.2.2, x6, y6]
    show _ = if (hsL X || hsL Y) = true then (1 : Int) else 0
    cases hsL X <;> cases hsL Y <;> simp
  · rw [b3.2.2.2.1]; exact DV_up b0.2 _ X x [] (Nat.lt_succ_self _) hx
  · rw [b3.2.2.2.2.1]; exact DV_up b0.2 _ Y y [] (Nat.lt_succ_self _) hy
theorem dv_rem (hw : VNW c e p a 7 0 (A b) x y g 1) (hb : 0 ≤ b) (hx : DV A c (YNG c p) X x []) (hy : (Y = .null ∧ y = 2) ∨ (isV Y = true ∧ DV A c (YNG c p) Y y [])) (hg : (E = .null ∧ g = 2) ∨ (E ≠ .null ∧ CHN c (YNG c p) g l ∧ DV A c (YNG c p) E 2 l)) : DV A e (YNG e p) (.rem (.index b.toNat) (.elem X (.elem Y E))) a [] := by
  obtain ⟨-, ⟨b0, b1, -, -⟩, b2, b3, -⟩ := hw
  refine ⟨⟨⟨b1, b2.2.2⟩, b3.1⟩, by rw [b3.2.2.1]; congr 1; omega, b3.2.2.2.2.2.2, ?_, ?_, ?_, ?_⟩
  · rw [b3.2.2.2.1]; exact DV_up b0.2 _ X x [] (Nat.lt_succ_self _) hx
  · rw [b3.2.2.2.2.1]
    rcases hy with ⟨h1, h2⟩ | ⟨h1, h2⟩
    · exact ⟨fun _ => h2, fun _ => h1⟩
    · exact ⟨fun w => absurd w (isV_nn h1), fun w => absurd w (DV_ne h1 h2)⟩
  · rw [b3.2.2.2.2.1]
    rcases hy with ⟨h1, h2⟩ | ⟨h1, h2⟩
    · exact fun w => absurd h1 w
    · exact fun _ => DV_up b0.2 _ Y y [] (Nat.lt_succ_self _) h2
  · rw [b3.2.2.2.2.2.1]
    rcases hg with h1 | ⟨h1, h2, h3⟩
    · exact Or.inl h1
    · exact Or.inr ⟨h1, l, CHN.up b0.2 l g h2, DV_up b0.2 _ E 2 l (Nat.lt_succ_self _) h3⟩
theorem DWS.vl (h : DWS c0 p most st kv ks c) (hk : 0 ≤ kv) : PL2 c ∧ fI c p 2 < 620 := by
  obtain ⟨a1, a2, a3, a4, a5, a6⟩ := h
  exact ⟨a2, by omega⟩
theorem DWS.sg (h : DWS c0 p most st kv ks c) (hk : 0 ≤ ks) : PL2 c ∧ fI c p 3 < 320 := by
  obtain ⟨a1, a2, a3, a4, a5, a6⟩ := h
  exact ⟨a2, by omega⟩
theorem dint_c {N : Int} {F : Nat → SC → Prop} (hD : DWX A c0 σ t p) (hS : DWS c0 p most st kv ks c) (hk : 0 ≤ kv) (hN : inR N) (hF : ∀ a e, DWP A p 1 0 0 c st (rok st (.int (Int32.ofInt N))) a e → F a e) : ck iv L h0 (d + 2) 196 [vr p, vi 0, vi N] c (qa F) :=
  plainv_c (hD.fx hS.1) hD.2.1 (hS.vl hk).1 (hS.vl hk).2 (fun e a hw => hF a e (dw_new hD hS hw (dv_int hw hN)))
theorem darg_c {N : Int} {F : Nat → SC → Prop} (hD : DWX A c0 σ t p) (hS : DWS c0 p most st kv ks c) (hk : 0 ≤ kv) (hN : 0 ≤ N) (hF : ∀ a e, DWP A p 1 0 0 c st (rok st (.arg N.toNat)) a e → F a e) : ck iv L h0 (d + 2) 196 [vr p, vi 1, vi N] c (qa F) :=
  plainv_c (hD.fx hS.1) hD.2.1 (hS.vl hk).1 (hS.vl hk).2 (fun e a hw => hF a e (dw_new hD hS hw (dv_arg hw hN)))
theorem dindex_c {N : Int} {F : Nat → SC → Prop} (hD : DWX A c0 σ t p) (hS : DWS c0 p most st kv ks c) (hk : 0 ≤ kv) (hN : 0 ≤ N) (hF : ∀ a e, DWP A p 1 0 0 c st (rok st (.index N.toNat)) a e → F a e) : ck iv L h0 (d + 2) 196 [vr p, vi 5, vi N] c (qa F) :=
  plainv_c (hD.fx hS.1) hD.2.1 (hS.vl hk).1 (hS.vl hk).2 (fun e a hw => hF a e (dw_new hD hS hw (dv_index hw hN)))
theorem dsub_c {F : Nat → SC → Prop} (hD : DWX A c0 σ t p) (hS : DWS c0 p most st kv ks c) (hk : 0 ≤ kv) (hb : 0 ≤ b) (hg : CHN c (YNG c p) g l ∧ DV A c (YNG c p) E 2 l) (hF : ∀ a e, DWP A p 1 0 0 c st (rok st (.sub (.index b.toNat) E)) a e → F a e) : ck iv L h0 (d + 2) 197 [vr p, vi 2, vr (A b), vr g] c (qa F) :=
  seeing_c (hD.fx hS.1) hD.2.1 (hS.vl hk).1 (hS.vl hk).2 (fun e a hw => hF a e (dw_new hD hS hw (dv_sub hw hb hg)))
theorem ddiv_c {F : Nat → SC → Prop} (hD : DWX A c0 σ t p) (hS : DWS c0 p most st kv ks c) (hk : 0 ≤ kv) (hb : 0 ≤ b) (hg : CHN c (YNG c p) g l ∧ DV A c (YNG c p) E 2 l) (hF : ∀ a e, DWP A p 1 0 0 c st (rok st (.div (.index b.toNat) E)) a e → F a e) : ck iv L h0 (d + 2) 197 [vr p, vi 4, vr (A b), vr g] c (qa F) :=
  seeing_c (hD.fx hS.1) hD.2.1 (hS.vl hk).1 (hS.vl hk).2 (fun e a hw => hF a e (dw_new hD hS hw (dv_div hw hb hg)))
theorem dlen_c {F : Nat → SC → Prop} (hD : DWX A c0 σ t p) (hS : DWS c0 p most st kv ks c) (hk : 0 ≤ kv) (hx : DV A c (YNG c p) X x []) (hF : ∀ a e, DWP A p 1 0 0 c st (rok st (.length X)) a e → F a e) : ck iv L h0 (d + 2) 199 [vr p, vr x] c (qa F) :=
  framed_c (hD.fx hS.1) hD.2.1 (hS.vl hk).1 (hS.vl hk).2 (fun e a hw => hF a e (dw_new hD hS hw (dv_len hw hx)))
theorem dadd_c {F : Nat → SC → Prop} (hD : DWX A c0 σ t p) (hS : DWS c0 p most st kv ks c) (hk : 0 ≤ kv) (hX : isV X = true) (hY : isV Y = true) (hx : DV A c (YNG c p) X x []) (hy : DV A c (YNG c p) Y y []) (hF : ∀ a e, DWP A p 1 0 0 c st (rok st (.add X Y)) a e → F a e) : ck iv L h0 (d + 2) 198 [vr p, vr x, vr y] c (qa F) :=
  couple_c (hD.fx hS.1) hD.2.1 (hS.vl hk).1 (hS.vl hk).2 (DV_kind hX hx).1 (DV_kind hY hy).1 (fun e a hw => hF a e (dw_new hD hS hw (dv_add hX hY hx hy hw)))
theorem drem_c {F : Nat → SC → Prop} (hD : DWX A c0 σ t p) (hS : DWS c0 p most st kv ks c) (hk : 0 ≤ kv) (hb : 0 ≤ b) (hx : DV A c (YNG c p) X x []) (hy : (Y = .null ∧ y = 2) ∨ (isV Y = true ∧ DV A c (YNG c p) Y y [])) (hg : (E = .null ∧ g = 2) ∨ (E ≠ .null ∧ CHN c (YNG c p) g l ∧ DV A c (YNG c p) E 2 l)) (hF : ∀ a e, DWP A p 1 0 0 c st (rok st (.rem (.index b.toNat) (.elem X (.elem Y E)))) a e → F a e) : ck iv L h0 (d + 2) 200 [vr p, vr (A b), vr x, vr y, vr g] c (qa F) :=
  acted_c (hD.fx hS.1) hD.2.1 (hS.vl hk).1 (hS.vl hk).2 (fun e a hw => hF a e (dw_new hD hS hw (dv_rem hw hb hx hy hg)))
/-- two wholes -/
theorem dreck_c {m n : Int32} {F : Nat → SC → Prop} (hD : DWX A c0 σ t p) (hS : DWS c0 p most st kv ks c) (hk : 0 ≤ kv) (hb : b ∈ fl t) (hso : σ.2 9 b = 4 ∨ σ.2 9 b = 5 ∨ σ.2 9 b = 6 ∨ σ.2 9 b = 7) (hF : ∀ a e, DWP A p 1 0 0 c st (rckE (σ.2 9 b) b (.int m) (.int n) st) a e → F a e) : ck iv L h0 (d + 3) 240 [vr 176, vr (A b), vi m.toInt, vi n.toInt] c (qa F) := by
  have hx := hS.1
  obtain ⟨w1, w2, w3⟩ := hD.wk hx
  obtain ⟨⟨n1, n2, n3, n4, n5⟩, -⟩ := hD.node hx hb
  have hp := hS.2.2.1.1
  have hF' : ∀ a e, DWP A p 1 0 0 c st (if σ.2 9 b = 7 then rok st (.arg (if m.toInt < n.toInt then 1 else 0)) else if σ.2 9 b = 6 ∧ n.toInt = 0 then rst st 2 b else rok st (.int (Int32.ofInt (wh2 (σ.2 9 b) m.toInt n.toInt)))) a e → F a e := hF
  refine D240 ⟨n1, ?_⟩
  rw [n2, n3, hp]
  refine ⟨fun q => ⟨w1, w2, dint_c hD hS hk (w32_in _) (fun a e h => hF' a e ?_)⟩, fun q => ⟨w1, w2, dint_c hD hS hk (w32_in _) (fun a e h => hF' a e ?_)⟩, fun q => ⟨fun z => ⟨w1, z, w2, dint_c hD hS hk (w32_in _) (fun a e h => hF' a e ?_)⟩, fun z => ⟨w1, dstop_c hD hS (by decide) (fun e h => hF' 2 e ?_)⟩⟩, fun q => ⟨w1, fun z => ⟨w2, darg_c hD hS hk (by decide) (fun a e h => hF' a e ?_)⟩, fun z => ⟨w2, darg_c hD hS hk (by decide) (fun a e h => hF' a e ?_)⟩⟩⟩
  · rw [if_neg (by omega), if_neg (by omega), q]; exact h
  · rw [if_neg (by omega), if_neg (by omega), q]; exact h
  · rw [if_neg (by omega), if_neg (fun w => z w.2), q]; exact h
  · rw [if_neg (by omega), if_pos ⟨q, z⟩]; exact h.up (by decide) (by decide) (by decide)
  · rw [if_pos (by omega), if_neg (by omega)]; exact h
  · rw [if_pos (by omega), if_pos (by omega)]; exact h
end
end
section
/-! Working by the desk: an act is done (C239). -/
def WCD (iv : List (Int × Int)) (L : Nat) (h0 : MH) (A : Int → Nat) (c0 : SC) (σ : SM) (t : Term) (p : Nat) (most : Int) (n : Nat) : Prop := ∀ (b st : Int) (E : Term) (c : SC) (g : Nat) (l : List (Int × Nat)), b ∈ fl t → isE 26 E → VN σ t E → cov σ b E → CHN c (YNG c p) g l → DV A c (YNG c p) E 2 l → DWS c0 p most st 0 0 c → ck iv L h0 (3 * n + 10) 234 [vr 176, vr (A b), vr g, vi (60 - (n : Int))] c (qa (DWP A p 0 (-1) 1 c st ((EV σ most n).1 b E st)))
section
variable {iv : List (Int × Int)} {L : Nat} {h0 : MH} {A A' : Int → Nat} {P : Nat → Prop} {c c0 e f : SC} {σ s s' w : SM} {t : Term} {d p a g x y n : Nat} {b most st kv ks kv' ks' k0 k1 k q : Int} {ys : List (Nat × Nat)} {rs : List Nat} {R : RS} {X Y E : Term} {l : List (Int × Nat)}
theorem dwsub_c {F : Nat → SC → Prop} {D : Nat} {z : Int} (hW : WCD iv L h0 A c0 σ t p most n) (hb : b ∈ fl t) (hE : isE 26 E ∧ VN σ t E ∧ cov σ b E) (hg : CHN c (YNG c p) g l ∧ DV A c (YNG c p) E 2 l) (hS : DWS c0 p most st kv ks c) (hk : 0 ≤ kv ∧ 0 ≤ ks) (hD : 3 * n + 10 ≤ D) (hz : z = 60 - n) (hF : ∀ a e, DWP A p 0 (-1) 1 c st ((EV σ most n).1 b E st) a e → F a e) : ck iv L h0 D 234 [vr 176, vr (A b), vr g, vi z] c (qa F) := by
  subst hz
  exact ck_mono (hW b st E c g l hb hE.1 hE.2.1 hE.2.2 hg.1 hg.2 (hS.up hk.1 hk.2)) hD hF
theorem kd_ne {V : Term} (h : isV V = true) : (vkd V = 0 → ∃ z, V = .int z) ∧ (vkd V = 1 → ∃ z, V = .arg z) ∧ (vkd V = 2 → ∃ d E, V = .sub (.index d) E) ∧ (vkd V = 3 → ∃ A B, V = .add A B) := by
  cases V with
  | int z => exact ⟨fun _ => ⟨z, rfl⟩, fun q => (by cases q), fun q => (by cases q), fun q => (by cases q)⟩
  | arg z => exact ⟨fun q => (by cases q), fun _ => ⟨z, rfl⟩, fun q => (by cases q), fun q => (by cases q)⟩
  | sub d E =>
    cases d with
    | index d => exact ⟨fun q => (by cases q), fun q => (by cases q), fun _ => ⟨d, E, rfl⟩, fun q => (by cases q)⟩
    | _ => cases h
  | add x y => exact ⟨fun q => (by cases q), fun q => (by cases q), fun q => (by cases q), fun _ => ⟨x, y, rfl⟩⟩
  | div d E => exact ⟨fun q => (by cases q), fun q => (by cases q), fun q => (by cases q), fun q => (by cases q)⟩
  | index _ => exact ⟨fun q => (by cases q), fun q => (by cases q), fun q => (by cases q), fun q => (by cases q)⟩
  | length _ => exact ⟨fun q => (by cases q), fun q => (by cases q), fun q => (by cases q), fun q => (by cases q)⟩
  | rem d E => exact ⟨fun q => (by cases q), fun q => (by cases q), fun q => (by cases q), fun q => (by cases q)⟩
  | _ => cases h
theorem bool_if {v : Bool} : ((if v = true then (1 : Int) else 0) = 0 → v = false) ∧ ((if v = true then (1 : Int) else 0) ≠ 0 → v = true) := by
  cases v <;> simp
theorem dact_c {z : Int} {F : Nat → SC → Prop} (hD : DWX A c0 σ t p) (hW : WCD iv L h0 A c0 σ t p most n) (hS : DWS c0 p most st kv ks c) (hk : 1 ≤ kv ∧ 1 ≤ ks) (hz : z = 60 - n) (hb : b ∈ fl t) (hso : 4 ≤ σ.2 9 b ∧ σ.2 9 b < 15 ∧ σ.2 9 b ≠ 8 ∧ σ.2 9 b ≠ 10) (hx : (isV X = true ∧ VN σ t X) ∧ DV A c (YNG c p) X x [])
    (hy : (σ.2 9 b = 4 ∨ σ.2 9 b = 5 ∨ σ.2 9 b = 6 ∨ σ.2 9 b = 7 ∨ σ.2 9 b = 9 ∨ σ.2 9 b = 12) → (isV Y = true ∧ VN σ t Y) ∧ DV A c (YNG c p) Y y []) (hy2 : ¬ (σ.2 9 b = 4 ∨ σ.2 9 b = 5 ∨ σ.2 9 b = 6 ∨ σ.2 9 b = 7 ∨ σ.2 9 b = 9 ∨ σ.2 9 b = 12) → y = 2) (hE : σ.2 9 b = 11 → (isE 26 E ∧ VN σ t E ∧ cov σ b E) ∧ CHN c (YNG c p) g l ∧ DV A c (YNG c p) E 2 l) (hF : ∀ a e, DWP A p 1 0 2 c st (actE (σ.2 9) (σ.2 10) (σ.2 14) (EV σ most n).1 b X Y E st) a e → F a e) : ck iv L h0 (3 * n + 11) 239 [vr 176, vr (A b), vr x, vr y, vr g, vi z] c (qa F) := by
  have hcx := hS.1
  have hT := hD.1.2.1
  have hN := hD.1.2.2.1
  have hXc := hD.fx hcx
  obtain ⟨w1, w2, w3⟩ := hD.wk hcx
  obtain ⟨⟨n1, n2, n3, n4, n5⟩, -, ⟨n6, n7, n8⟩, n9⟩ := hD.node hcx hb
  have hp := hS.2.2.1.1
  have hbl := hT.lt hb
  have hk0 : 0 ≤ kv := by omega
  obtain ⟨⟨x0, x1⟩, x2, x3⟩ := DV_kind hx.1.1 hx.2
  obtain ⟨kd0, kd1, kd2, kd3⟩ := kd_ne hx.1.1
  have e10 : ∃ D, 3 * n + 10 = D + 2 := ⟨3 * n + 8, by omega⟩
  -- what is left
  have lft : ∀ (Y' E' : Term) (y' g' : Nat) (l' : List (Int × Nat)), isW X = true → ((Y' = .null ∧ y' = 2) ∨ (isV Y' = true ∧ DV A c (YNG c p) Y' y' [])) → ((E' = .null ∧ g' = 2) ∨ (E' ≠ .null ∧ CHN c (YNG c p) g' l' ∧ DV A c (YNG c p) E' 2 l')) → (∀ a e, DWP A p 1 0 2 c st (lftE b X Y' E' st) a e → F a e) → ck iv L h0 (3 * n + 10) 200 [vr p, vr (A b), vr x, vr y', vr g'] c (qa fun r s => F r s) := fun Y' E' y' g' l' q hy' hg' hG => by
    unfold lftE at hG
    rw [if_pos q] at hG
    exact drem_c (l := l') hD hS hk0 hbl.1 hx.2 hy' hg' (fun a e h => hG a e (h.up (by decide) (by decide) (by decide)))
  have stp : (∀ a e, DWP A p 1 0 2 c st (rst st 3 b) a e → F a e) → ck iv L h0 (3 * n + 10) 232 [vr 176, vi 3, vi b] c (qa fun r s => F r s) := fun hG => dstop_c hD hS (by decide) (fun e h => hG 2 e (h.up (by decide) (by decide) (by decide)))
  unfold actE at hF
  refine C239 ⟨x1, isleft_c hx.1.1 hx.2 ⟨n1, ?_⟩⟩
  rw [n2, n3, hp]
  obtain ⟨bi1, bi2⟩ := @bool_if (isW X)
  -- with one value alone
  have one : ∀ (Y' E' : Term), (¬ isW X = true → lftE b X Y' E' st = rst st 3 b) := fun Y' E' q => by unfold lftE; rw [if_neg q]
  refine ⟨fun q => ?_, fun q => ?_, fun q => ?_, fun q => ?_, fun q => ?_⟩
  · -- use
    rw [if_neg (by omega), if_pos q] at hF
    obtain ⟨y1, y2⟩ := hy (by omega)
    refine ⟨x1, fun q2 => ⟨fun r => ⟨w1, ?_⟩, fun r => ⟨w1, fun _ => ⟨w2, ?_⟩, fun q3 => by omega⟩⟩, fun q2 => ?_⟩
    · refine stp (fun a e h => hF a e ?_)
      rw [← one Y .null (by rw [bi1 r]; decide)] at h
      unfold useE
      cases X with
      | sub D E' => exact absurd x2 q2
      | _ => exact h
    · refine lft Y .null y 2 l (bi2 r) (Or.inr ⟨y1.1, y2⟩) (Or.inl ⟨rfl, rfl⟩) (fun a e h => hF a e ?_)
      unfold useE
      cases X with
      | sub D E' => exact absurd x2 q2
      | _ => exact h
    · obtain ⟨D, E', rfl⟩ := kd2 (by rw [← x2]; exact q2)
      obtain ⟨c1, c2, c3, l', c4, c5⟩ := hx.2
      obtain ⟨⟨d1, d2⟩, d3, d4, d5⟩ := hx.1.2
      obtain ⟨⟨m1, m2, m3, m4, m5⟩, -, ⟨m6, m7, m8⟩, m9⟩ := hD.node hcx d1
      have dl := hT.lt d1
      have hF' : ∀ a e, DWP A p 1 0 2 c st ((EV σ most n).1 (σ.2 14 (3 * D)) (upE E' (σ.2 10 D) Y) st) a e → F a e := hF
      have cb := cov_bind hT hN (i := 0) d1 (by rw [d2]; decide) (Or.inl d2) d4 (isV_nn y1.1) d3
      rw [show (3 * (D : Int) + 0) = 3 * D by omega] at cb
      have m9' := m9 0 (by decide) (by rw [d2]; decide)
      rw [show (3 * (D : Int) + 0) = 3 * D by omega] at m9'
      have hp1 : pO (σ.2 9 D) = 1 := by rw [d2]; rfl
      rw [c2, m6, m7, m8, m4, m9', hp1]
      refine ⟨m1, rfl, ⟨by decide, by decide⟩, w1, w2, ?_⟩
      have e10' : ∃ D, 3 * n + 10 = D + 1 := ⟨3 * n + 9, by omega⟩
      obtain ⟨D1, hD1⟩ := e10'
      rw [hD1]
      refine bind_c hXc hD.2.1 (hS.sg (by omega)).1 (hS.sg (by omega)).2 (fun e2 a2 hw => ?_)
      obtain ⟨b1, b2, b3⟩ := dw_bind hD hS d4 ⟨c4, c5⟩ ⟨y1.1, y2⟩ (DV_ne y1.1 y2) hw
      have S2 := hS.nx hXc b1 ⟨Int.le_refl _, hS.2.2.2.1.2.1⟩ ⟨rfl, rfl⟩
      refine ⟨(hD.wk S2.1).1, dwsub_c hW cb.1 ⟨upE_is 26 _ _ _ d4, VN_up _ _ _ d5 y1.1 y1.2, cb.2⟩ ⟨b2, b3⟩ S2 ⟨by omega, by omega⟩ (by omega) hz (fun a e h => hF' a e ((b1.tr rfl h).up (by decide) (by decide) (by decide)))⟩
  · -- wholes
    have q4 : σ.2 9 b = 4 ∨ σ.2 9 b = 5 ∨ σ.2 9 b = 6 ∨ σ.2 9 b = 7 := by
      clear hy hy2 hE
      omega
    obtain ⟨y1, y2⟩ := hy (by omega)
    rw [if_pos q4] at hF
    obtain ⟨⟨y0, yk⟩, y3, y4⟩ := DV_kind y1.1 y2
    have yn := DV_ne y1.1 y2
    obtain ⟨bj1, bj2⟩ := @bool_if (isW Y)
    have l2 : (isW X || isW Y) = true → ck iv L h0 (3 * n + 10) 200 [vr p, vr (A b), vr x, vr y, vr 2] c (qa fun r s => F r s) := fun q => by
      unfold rckE at hF
      rw [if_pos q] at hF
      exact drem_c (E := .null) (l := l) hD hS hk0 hbl.1 hx.2 (Or.inr ⟨y1.1, y2⟩) (Or.inl ⟨rfl, rfl⟩) (fun a e h => hF a e (h.up (by decide) (by decide) (by decide)))
    have s2 : isW X = false → isW Y = false → (∀ m n, ¬ (X = .int m ∧ Y = .int n)) → ck iv L h0 (3 * n + 10) 232 [vr 176, vi 3, vi b] c (qa fun r s => F r s) := fun h1 h2 h3 => stp (fun a e h => hF a e (by
      unfold rckE
      rw [h1, h2, if_neg (by decide)]
      split
      · exact absurd ⟨rfl, rfl⟩ (h3 _ _)
      · exact h))
    refine ⟨fun w => absurd w yn, fun _ => ⟨x1, fun q5 => ⟨fun r => ⟨w1, fun _ => ⟨w2, l2 (by rw [bi2 r]; rfl)⟩, fun q6 => by omega⟩, fun r => ⟨fun w => absurd w yn, fun _ => ⟨yk, isleft_c y1.1 y2 ⟨fun r2 => ⟨n1, w1, ?_⟩, fun r2 => ⟨w1, n1, ?_⟩⟩⟩⟩⟩, fun q5 => ⟨yk, fun q6 => ⟨fun r => ⟨w1, fun _ => ⟨w2, l2 (by rw [bi2 r]; rfl)⟩, fun q6 => by omega⟩, fun r => ⟨fun w => absurd w yn, fun _ => isleft_c y1.1 y2 ⟨fun r2 => ⟨n1, w1, ?_⟩, fun r2 => ⟨w1, n1, ?_⟩⟩⟩⟩, fun q6 => ⟨w1, ?_⟩⟩⟩⟩
    · rw [n2]
      exact s2 (bi1 r) (bj1 r2) (fun m n h => q5 (by rw [x2, h.1]; rfl))
    · rw [n3, hp]
      exact ⟨fun _ => ⟨w2, l2 (by rw [bj2 r2]; simp)⟩, fun q7 => by omega⟩
    · rw [n2]
      exact s2 (bi1 r) (bj1 r2) (fun m n h => q6 (by rw [y3, h.2]; rfl))
    · rw [n3, hp]
      exact ⟨fun _ => ⟨w2, l2 (by rw [bj2 r2]; simp)⟩, fun q7 => by omega⟩
    · obtain ⟨m1, rfl⟩ := kd0 (by rw [← x2]; exact q5)
      obtain ⟨m2, rfl⟩ := (kd_ne y1.1).1 (by rw [← y3]; exact q6)
      have v1 : fI c x 1 = m1.toInt := hx.2.2.1
      have v2 : fI c y 1 = m2.toInt := y2.2.1
      rw [v1, v2]
      have e10' : ∃ D, 3 * n + 10 = D + 3 := ⟨3 * n + 7, by omega⟩
      obtain ⟨D1, hD1⟩ := e10'
      rw [hD1]
      exact dreck_c hD hS hk0 hb q4 (fun a e h => hF a e (h.up (by decide) (by decide) (by decide)))
  · -- pick
    rw [if_neg (by omega), if_neg (by omega), if_pos q] at hF
    obtain ⟨⟨h1, h2, h3⟩, hg, hv⟩ := hE q
    have y2 := hy2 (by omega)
    subst y2
    refine ⟨x1, fun q2 => ⟨fun r => ⟨w1, ?_⟩, fun r => ⟨w1, fun q3 => by omega, fun _ => ⟨w2, ?_⟩⟩⟩, fun q2 => ?_⟩
    · refine stp (fun a e h => hF a e ?_)
      rw [← one .null E (by rw [bi1 r]; decide)] at h
      unfold pckE
      cases X with
      | arg m => exact absurd x2 q2
      | _ => exact h
    · refine lft .null E 2 g l (bi2 r) (Or.inl ⟨rfl, rfl⟩) (Or.inr ⟨fun w => by rw [w] at h1; exact h1.elim, hg, hv⟩) (fun a e h => hF a e ?_)
      unfold pckE
      cases X with
      | arg m => exact absurd x2 q2
      | _ => exact h
    · obtain ⟨m, rfl⟩ := kd1 (by rw [← x2]; exact q2)
      obtain ⟨c1, c2, c3⟩ := hx.2
      have hp3 : pO (σ.2 9 b) = 3 := by rw [q]; rfl
      rw [c2, n6, n7, n8, hp3, n9 2 (by decide) (by rw [hp3]; decide), n9 1 (by decide) (by rw [hp3]; decide)]
      have hF' : ∀ a e, DWP A p 1 0 2 c st ((EV σ most n).1 (σ.2 14 (3 * b + if m = 1 then 1 else 2)) E st) a e → F a e := hF
      refine ⟨fun q3 => ⟨rfl, ⟨by decide, by decide⟩, w1, ?_⟩, fun q3 => ⟨rfl, ⟨by decide, by decide⟩, w1, ?_⟩⟩
      · have cp := cov_part hT (i := 2) hb (by rw [hp3]; decide) (by omega) h3
        rw [if_neg (by omega)] at hF'
        exact dwsub_c hW cp.1 ⟨h1, h2, cp.2⟩ ⟨hg, hv⟩ hS ⟨by omega, by omega⟩ (Nat.le_refl _) hz (fun a e h => hF' a e (h.up (by decide) (by decide) (by decide)))
      · have cp := cov_part hT (i := 1) hb (by rw [hp3]; decide) (by omega) h3
        rw [if_pos (by omega)] at hF'
        exact dwsub_c hW cp.1 ⟨h1, h2, cp.2⟩ ⟨hg, hv⟩ hS ⟨by omega, by omega⟩ (Nat.le_refl _) hz (fun a e h => hF' a e (h.up (by decide) (by decide) (by decide)))
  · -- a pair
    rw [if_neg (by omega), if_neg (by omega), if_neg (by omega), if_pos q] at hF
    obtain ⟨y1, y2⟩ := hy (by omega)
    refine ⟨fun _ => ⟨w1, w2, ?_⟩, fun w => absurd w (DV_ne y1.1 y2)⟩
    exact dadd_c hD hS hk0 hx.1.1 y1.1 hx.2 y2 (fun a e h => hF a e (h.up (by decide) (by decide) (by decide)))
  · -- first, second
    rw [if_neg (by omega), if_neg (by omega), if_neg (by omega), if_neg (by omega)] at hF
    have y2 := hy2 (by omega)
    subst y2
    refine ⟨x1, fun q2 => ⟨fun r => ⟨w1, ?_⟩, fun r => ⟨w1, fun _ => ⟨w2, ?_⟩, fun q3 => by omega⟩⟩, fun q2 => ?_⟩
    · refine stp (fun a e h => hF a e ?_)
      rw [← one .null .null (by rw [bi1 r]; decide)] at h
      unfold hlfE
      cases X with
      | add A A' => exact absurd x2 q2
      | _ => exact h
    · refine lft .null .null 2 2 l (bi2 r) (Or.inl ⟨rfl, rfl⟩) (Or.inl ⟨rfl, rfl⟩) (fun a e h => hF a e ?_)
      unfold hlfE
      cases X with
      | add A A' => exact absurd x2 q2
      | _ => exact h
    · obtain ⟨B, B', rfl⟩ := kd3 (by rw [← x2]; exact q2)
      obtain ⟨c1, c2, c3, c4⟩ := hx.2
      have wp : ∀ V v, DV A c (YNG c p) V v [] → DWP A p 1 0 2 c st (rok st V) v c := fun V v hv =>
        ⟨⟨CX.rf, RMP.rf⟩, ⟨⟨STY.rf, STY.rf⟩, hS.2.1⟩, ⟨hS.2.2.1.2.2.1, hS.2.2.1.2.2.2.1, hS.2.2.1.2.2.2.2⟩, ⟨by show fI c p 2 ≤ fI c p 2 + 2 * (st - st) + 1; omega, by show fI c p 3 ≤ fI c p 3 + (st - st) + 0; omega⟩, fun _ => hv, fun w => absurd rfl w⟩
      refine ⟨fun q4 => hF _ c ?_, fun q4 => hF _ c ?_⟩
      · show DWP A p 1 0 2 c st (rok st (if σ.2 9 b = 13 then B else B')) _ c
        rw [if_neg q4]
        exact wp B' _ c4
      · show DWP A p 1 0 2 c st (rok st (if σ.2 9 b = 13 then B else B')) _ c
        rw [if_pos q4]
        exact wp B _ c3
end
end
