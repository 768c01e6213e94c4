/-! What is seen, by the desk: looked up, put ahead. -/
section
variable {iv : List (Int × Int)} {L : Nat} {h0 : MH} {A A' : Int → Nat} {P : Nat → Prop} {c c0 e : SC} {s s' w : SM} {t : Term} {d : Nat} {ys : List (Nat × Nat)} {rs : List Nat}
theorem seen_find_c {a0 g : Nat} {x : Int} {F : Nat → SC → Prop} {l : List (Int × Nat)} (hg : ∀ a, P a → a ≠ 2) (hC : CHN c P g l) (hF : F (chf l x) c) : ck iv L h0 d 229 [vr a0, vr g, vi x] c (qa F) := by
  have key : ∀ (l : List (Int × Nat)) (g : Nat), CHN c P g l → F (chf l x) c → wk iv L h0 d 229 2 [ln, ln, li x, lr g] [] c (qa F) := by
    intro l
    induction l with
    | nil =>
      intro g hg' h
      have hg' : g = 2 := hg'
      subst hg'
      exact C229_2 ⟨fun _ => h, fun w => absurd rfl w⟩
    | cons q r ih =>
      intro g hg' h
      obtain ⟨⟨h1, h2⟩, h3, h4, h5, h6⟩ := hg'
      refine C229_2 ⟨fun w => absurd w (hg g h1), fun _ => ⟨h2, fun w => ?_, fun w => ?_⟩⟩
      · rw [h3] at w
        unfold chf at h
        rw [if_neg w] at h
        exact ih _ h6 h
      · rw [h3] at w
        unfold chf at h
        rw [if_pos w] at h
        rw [h4]
        exact h
  exact C229 (key l g hC hF)
end
theorem chf_c (q : Int × Nat) (l : List (Int × Nat)) (x : Int) : chf (q :: l) x = if q.1 = x then q.2 else chf l x := rfl
theorem DV_nv {A : Int → Nat} {c : SC} {P : Nat → Prop} {V : Term} {a : Nat} (h : isV V = true) (l l' : List (Int × Nat)) (hv : DV A c P V a l) : DV A c P V a l' := by
  cases V with
  | mul r y => cases h
  | null => cases h
  | int _ => exact hv
  | arg _ => exact hv
  | index _ => exact hv
  | add _ _ => exact hv
  | length _ => exact hv
  | sub b E => cases b <;> first | exact hv | exact hv.elim
  | div b E => cases b <;> first | exact hv | exact hv.elim
  | rem b z =>
    cases b with
    | index b =>
      cases z with
      | elem x z =>
        cases z with
        | elem y E => exact hv
        | _ => exact hv.elim
      | _ => exact hv.elim
    | _ => exact hv.elim
  | _ => exact hv.elim
/-- an env holds what its letters hold -/
theorem DV_lk {A : Int → Nat} {c : SC} {P : Nat → Prop} {l : List (Int × Nat)} : ∀ (n : Nat) (E : Term), isE n E → DV A c P E 2 l → ∀ x, 0 ≤ x → x < n → (chf l x = 2 ↔ lkE E x = .null) ∧ (lkE E x ≠ .null → DV A c P (lkE E x) (chf l x) []) := by
  intro n
  induction n with
  | zero => intro E _ _ x x0 x1; omega
  | succ n ih =>
    intro E hE hv x x0 x1
    cases E with
    | mul r y =>
      have hE : isE n r := hE
      obtain ⟨h1, h2, h3⟩ := hv
      have hm : ∀ (n : Nat) (E : Term), isE n E → mlen E = n := by
        intro n
        induction n with
        | zero => intro E h; cases E <;> first | rfl | exact h.elim
        | succ n ih => intro E h; cases E <;> first | exact h.elim | (rename_i a b; show mlen a + 1 = n + 1; rw [ih a h])
      have hr := hm n r hE
      show (chf l x = 2 ↔ (if (mlen r : Int) = x then y else lkE r x) = .null) ∧ ((if (mlen r : Int) = x then y else lkE r x) ≠ .null → DV A c P (if (mlen r : Int) = x then y else lkE r x) (chf l x) [])
      by_cases q : (mlen r : Int) = x
      · rw [if_pos q, ← q]
        exact ⟨h2, h3⟩
      · rw [if_neg q]
        exact ih r hE h1 x x0 (by omega)
    | _ => exact hE.elim
/-- one more is seen -/
theorem DV_push {A : Int → Nat} {c : SC} {P : Nat → Prop} {l : List (Int × Nat)} {x : Int} {v : Term} {a : Nat} (ha : a ≠ 2) (hv : isV v = true) (hd : DV A c P v a []) : ∀ (n : Nat) (E : Term), isE n E → DV A c P E 2 l → DV A c P (upE E x v) 2 ((x, a) :: l) := by
  intro n
  induction n with
  | zero => intro E hE _; cases E <;> first | exact hE.elim | exact trivial
  | succ n ih =>
    intro E hE h
    cases E with
    | mul r y =>
      have hE : isE n r := hE
      obtain ⟨h1, h2, h3⟩ := h
      have keep : ∀ (n : Nat) (r : Term), isE n r → ((n : Int) ≤ x → DV A c P r 2 l → DV A c P r 2 ((x, a) :: l)) ∧ mlen r = n := by
        intro n
        induction n with
        | zero => intro r hr; cases r <;> first | exact hr.elim | exact ⟨fun _ _ => trivial, rfl⟩
        | succ n ih =>
          intro r hr
          cases r with
          | mul r y =>
            obtain ⟨i1, i2⟩ := ih r hr
            refine ⟨fun hx h => ?_, by show mlen r + 1 = n + 1; rw [i2]⟩
            obtain ⟨h1, h2, h3⟩ := h
            have e : chf ((x, a) :: l) (mlen r) = chf l (mlen r) := by rw [chf_c, if_neg (show ¬ x = (mlen r : Int) by omega)]
            exact ⟨i1 (by omega) h1, by rw [e]; exact h2, by rw [e]; exact h3⟩
          | _ => exact hr.elim
      obtain ⟨k1, k2⟩ := keep n r hE
      show DV A c P (if (mlen r : Int) = x then .mul r v else .mul (upE r x v) y) 2 ((x, a) :: l)
      by_cases q : (mlen r : Int) = x
      · rw [if_pos q]
        have e : chf ((x, a) :: l) (mlen r) = a := by rw [chf_c, if_pos q.symm]
        exact ⟨k1 (by omega) h1, by rw [e]; exact ⟨fun w => absurd w ha, fun w => absurd w (isV_nn hv)⟩, fun _ => by rw [e]; exact hd⟩
      · rw [if_neg q]
        have hml : ∀ (n : Nat) (r : Term), isE n r → mlen (upE r x v) = mlen r := by
          intro n
          induction n with
          | zero => intro r hr; cases r <;> first | exact hr.elim | rfl
          | succ n ih =>
            intro r hr
            cases r with
            | mul r y =>
              show mlen (if (mlen r : Int) = x then .mul r v else .mul (upE r x v) y) = mlen r + 1
              by_cases q : (mlen r : Int) = x
              · rw [if_pos q]; rfl
              · rw [if_neg q]; show mlen (upE r x v) + 1 = mlen r + 1; rw [ih r hr]
            | _ => exact hr.elim
        have e : chf ((x, a) :: l) (mlen (upE r x v)) = chf l (mlen r) := by rw [hml n r hE, chf_c, if_neg (fun w => q w.symm)]
        exact ⟨ih r hE h1, by rw [e]; exact h2, fun w => by rw [e]; exact h3 w⟩
    | _ => exact hE.elim
