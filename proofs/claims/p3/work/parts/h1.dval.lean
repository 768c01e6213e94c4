/-! Values of the desk as trees: value cells (kl 10: 0 what it is, 1 number, 2 node, 3 and 4 what it is of, 5 what is seen, 6 whether something is left), seen cells (kl 7: 0 letter, 1 what it is, 2 what was seen ahead). -/
/-- what is seen, as a list: the nearest first -/
def CHN (c : SC) (P : Nat → Prop) : Nat → List (Int × Nat) → Prop
  | g, [] => g = 2
  | g, q :: r => (P g ∧ kl c g = 7) ∧ fI c g 0 = q.1 ∧ fR c g 1 = q.2 ∧ q.2 ≠ 2 ∧ CHN c P (fR c g 2) r
def chf (l : List (Int × Nat)) (x : Int) : Nat := match l with
  | [] => 2
  | q :: r => if q.1 = x then q.2 else chf r x
/-- a value cell with what is in it -/
def cll (c : SC) (P : Nat → Prop) (a : Nat) (k : Int) : Prop := (P a ∧ kl c a = 10) ∧ fI c a 0 = k
/-- the cell, or the list of what is seen, stands for the tree -/
def DV (A : Int → Nat) (c : SC) (P : Nat → Prop) : Term → Nat → List (Int × Nat) → Prop
  | .null, _, _ => True
  | .mul r y, _, l => DV A c P r 2 l ∧ (chf l (mlen r) = 2 ↔ y = .null) ∧ (y ≠ .null → DV A c P y (chf l (mlen r)) [])
  | .int n, a, _ => cll c P a 0 ∧ fI c a 1 = n.toInt ∧ fI c a 6 = 0
  | .arg n, a, _ => cll c P a 1 ∧ fI c a 1 = n ∧ fI c a 6 = 0
  | .sub (.index b) E, a, _ => cll c P a 2 ∧ fR c a 2 = A b ∧ fI c a 6 = 0 ∧ ∃ l, CHN c P (fR c a 5) l ∧ DV A c P E 2 l
  | .add x y, a, _ => cll c P a 3 ∧ fI c a 6 = (if hsL (.add x y) then 1 else 0) ∧ DV A c P x (fR c a 3) [] ∧ DV A c P y (fR c a 4) []
  | .div (.index b) E, a, _ => cll c P a 4 ∧ fR c a 2 = A b ∧ fI c a 6 = 1 ∧ ∃ l, CHN c P (fR c a 5) l ∧ DV A c P E 2 l
  | .index n, a, _ => cll c P a 5 ∧ fI c a 1 = n ∧ fI c a 6 = 1
  | .length x, a, _ => cll c P a 6 ∧ fI c a 6 = 1 ∧ DV A c P x (fR c a 3) []
  | .rem (.index b) (.elem x (.elem y E)), a, _ => cll c P a 7 ∧ fR c a 2 = A b ∧ fI c a 6 = 1 ∧ DV A c P x (fR c a 3) [] ∧ (y = .null ↔ fR c a 4 = 2) ∧ (y ≠ .null → DV A c P y (fR c a 4) []) ∧ ((E = .null ∧ fR c a 5 = 2) ∨ (E ≠ .null ∧ ∃ l, CHN c P (fR c a 5) l ∧ DV A c P E 2 l))
  | _, _, _ => False
/-- cells that stay -/
def STY (P Q : Nat → Prop) (c e : SC) : Prop := ∀ a, P a → Q a ∧ (kl c a = 10 ∨ kl c a = 7 → kl e a = kl c a ∧ (∀ y, y < 7 → fI e a y = fI c a y ∧ fR e a y = fR c a y))
theorem CHN.up {P Q : Nat → Prop} {c e : SC} (h : STY P Q c e) : ∀ (l : List (Int × Nat)) (g : Nat), CHN c P g l → CHN e Q g l := by
  intro l
  induction l with
  | nil => intro g hg; exact hg
  | cons q r ih =>
    intro g hg
    obtain ⟨⟨h1, h2⟩, h3, h4, h5, h6⟩ := hg
    obtain ⟨q1, q2⟩ := h g h1
    obtain ⟨k1, k2⟩ := q2 (Or.inr h2)
    refine ⟨⟨q1, k1.trans h2⟩, (k2 0 (by decide)).1.trans h3, (k2 1 (by decide)).2.trans h4, h5, ?_⟩
    rw [(k2 2 (by decide)).2]
    exact ih _ h6
theorem cll.up {P Q : Nat → Prop} {c e : SC} (h : STY P Q c e) {a : Nat} {k : Int} (hc : cll c P a k) : cll e Q a k ∧ ∀ y, y < 7 → fI e a y = fI c a y ∧ fR e a y = fR c a y := by
  obtain ⟨⟨h1, h2⟩, h3⟩ := hc
  obtain ⟨q1, q2⟩ := h a h1
  obtain ⟨k1, k2⟩ := q2 (Or.inl h2)
  exact ⟨⟨⟨q1, k1.trans h2⟩, (k2 0 (by decide)).1.trans h3⟩, k2⟩
/-- what a value is, stays with its cells -/
theorem DV_up {A : Int → Nat} {P Q : Nat → Prop} {c e : SC} (h : STY P Q c e) : ∀ (n : Nat) (V : Term) (a : Nat) (l : List (Int × Nat)), SizeOf.sizeOf V < n → DV A c P V a l → DV A e Q V a l := by
  intro n
  induction n with
  | zero => intro V a l h; omega
  | succ n ih =>
    intro V a l hn hv
    cases V with
    | null => exact trivial
    | int z =>
      obtain ⟨h1, h2, h3⟩ := hv
      obtain ⟨c1, c2⟩ := cll.up h h1
      exact ⟨c1, (c2 1 (by decide)).1.trans h2, (c2 6 (by decide)).1.trans h3⟩
    | arg z =>
      obtain ⟨h1, h2, h3⟩ := hv
      obtain ⟨c1, c2⟩ := cll.up h h1
      exact ⟨c1, (c2 1 (by decide)).1.trans h2, (c2 6 (by decide)).1.trans h3⟩
    | index z =>
      obtain ⟨h1, h2, h3⟩ := hv
      obtain ⟨c1, c2⟩ := cll.up h h1
      exact ⟨c1, (c2 1 (by decide)).1.trans h2, (c2 6 (by decide)).1.trans h3⟩
    | mul r y =>
      obtain ⟨h1, h2, h3⟩ := hv
      simp only [Term.mul.sizeOf_spec] at hn
      exact ⟨ih r _ _ (by omega) h1, h2, fun q => ih y _ _ (by omega) (h3 q)⟩
    | add x y =>
      obtain ⟨h1, h2, h3, h4⟩ := hv
      obtain ⟨c1, c2⟩ := cll.up h h1
      simp only [Term.add.sizeOf_spec] at hn
      refine ⟨c1, (c2 6 (by decide)).1.trans h2, ?_, ?_⟩
      · rw [(c2 3 (by decide)).2]; exact ih x _ _ (by omega) h3
      · rw [(c2 4 (by decide)).2]; exact ih y _ _ (by omega) h4
    | length x =>
      obtain ⟨h1, h2, h3⟩ := hv
      obtain ⟨c1, c2⟩ := cll.up h h1
      simp only [Term.length.sizeOf_spec] at hn
      refine ⟨c1, (c2 6 (by decide)).1.trans h2, ?_⟩
      rw [(c2 3 (by decide)).2]; exact ih x _ _ (by omega) h3
    | sub b E =>
      cases b with
      | index b =>
        obtain ⟨h1, h2, h3, l', h4, h5⟩ := hv
        obtain ⟨c1, c2⟩ := cll.up h h1
        simp only [Term.sub.sizeOf_spec] at hn
        exact ⟨c1, (c2 2 (by decide)).2.trans h2, (c2 6 (by decide)).1.trans h3, l', by rw [(c2 5 (by decide)).2]; exact CHN.up h l' _ h4, ih E _ _ (by omega) h5⟩
      | _ => exact hv.elim
    | div b E =>
      cases b with
      | index b =>
        obtain ⟨h1, h2, h3, l', h4, h5⟩ := hv
        obtain ⟨c1, c2⟩ := cll.up h h1
        simp only [Term.div.sizeOf_spec] at hn
        exact ⟨c1, (c2 2 (by decide)).2.trans h2, (c2 6 (by decide)).1.trans h3, l', by rw [(c2 5 (by decide)).2]; exact CHN.up h l' _ h4, ih E _ _ (by omega) h5⟩
      | _ => exact hv.elim
    | rem b z =>
      cases b with
      | index b =>
        cases z with
        | elem x z =>
          cases z with
          | elem y E =>
            obtain ⟨h1, h2, h3, h4, h5, h6, h7⟩ := hv
            obtain ⟨c1, c2⟩ := cll.up h h1
            simp only [Term.rem.sizeOf_spec, Term.elem.sizeOf_spec] at hn
            refine ⟨c1, (c2 2 (by decide)).2.trans h2, (c2 6 (by decide)).1.trans h3, ?_, ?_, ?_, ?_⟩
            · rw [(c2 3 (by decide)).2]; exact ih x _ _ (by omega) h4
            · rw [(c2 4 (by decide)).2]; exact h5
            · rw [(c2 4 (by decide)).2]; exact fun q => ih y _ _ (by omega) (h6 q)
            · rw [(c2 5 (by decide)).2]
              exact h7.imp id (fun q => ⟨q.1, q.2.choose, CHN.up h _ _ q.2.choose_spec.1, ih E _ _ (by omega) q.2.choose_spec.2⟩)
          | _ => exact hv.elim
        | _ => exact hv.elim
      | _ => exact hv.elim
    | _ => exact hv.elim
