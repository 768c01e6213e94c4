/-! The reason of a name is told of names alone. -/
def Q1 (so : Int → Int) (J : JT) : Prop := ∀ x, J.2.2 x = 1 → so x = 3
theorem q_jsr {so : Int → Int} {J : JT} {b z : Int} (h : Q1 so J) (hz : z ≠ 1) : Q1 so (jsr J b z) := fun x hx => by
  have hx : (if x = b then z else J.2.2 x) = 1 := hx
  by_cases e : x = b
  · rw [if_pos e] at hx; exact absurd hx hz
  · rw [if_neg e] at hx; exact h x hx
theorem q_jsn {so : Int → Int} {J : JT} {b z : Int} (h : Q1 so J) (hz : z ≠ 1) : Q1 so (jsn J b z) := by
  unfold jsn
  split
  · exact q_jsr h hz
  · exact h
theorem q_jin {so : Int → Int} {J : JT} {b : Int} {A : Option Term} (h : Q1 so J) : Q1 so (jin b A J) := fun x hx => by
  have hx : (if x = b then (0 : Int) else J.2.2 x) = 1 := hx
  by_cases e : x = b
  · rw [if_pos e] at hx; cases hx
  · rw [if_neg e] at hx; exact h x hx
theorem q_jen {so : Int → Int} {M : JT × Term} {sb b : Int} {A : Option Term} (h : Q1 so M.1) : Q1 so (jen sb b A M).1 := by
  show Q1 so (jcl sb b A M.2 (jmd b M.2 M.1))
  have h0 : Q1 so (jmd b M.2 M.1) := h
  cases A with
  | none => exact h0
  | some a =>
    by_cases e : (jmd b M.2 M.1).2.2 b = 0 ∧ sb ≠ 10 ∧ sb ≠ 11 ∧ kmt a M.2 = false
    · rw [jcl_y e]; exact q_jsr h0 (by decide)
    · rw [jcl_z e]; exact h0
def QJ1 (so : Int → Int) (r : JF) : Prop := ∀ A J, Q1 so J → Q1 so (r A J).1
theorem q_jdf {so : Int → Int} {r0 : JF} {b : Int} {k : Term} {A : Option Term} {J : JT} (h : QJ1 so r0) (hJ : Q1 so J) : Q1 so (jdf r0 b k A J).1 := by
  unfold jdf
  split
  · refine q_jsr (h _ _ hJ) ?_
    split <;> decide
  · exact h _ _ hJ
theorem q_jus {so : Int → Int} {r0 r1 : JF} {p : Int} {J : JT} (h : QJ1 so r0) (h1 : QJ1 so r1) (hJ : Q1 so J) : Q1 so (jus r0 r1 p J).1 := by
  unfold jus
  split
  · exact h1 _ _ (h _ _ hJ)
  · exact h1 _ _ (h _ _ hJ)
  · exact h1 _ _ (q_jsn (h _ _ hJ) (by decide))
theorem q_jpk {so : Int → Int} {r0 r1 r2 : JF} {b : Int} {A : Option Term} {J : JT} (h : QJ1 so r0) (h1 : QJ1 so r1) (h2 : QJ1 so r2) (hJ : Q1 so J) : Q1 so (jpk r0 r1 r2 b A J).1 := by
  unfold jpk
  split
  · exact h2 _ _ (h1 _ _ (h _ _ hJ))
  · split
    · exact h2 _ _ (h1 _ _ (h _ _ hJ))
    · exact q_jsr (h2 _ _ (h1 _ _ (h _ _ hJ))) (by decide)
theorem q_jpr {so : Int → Int} {r0 r1 : JF} {A : Option Term} {J : JT} (h : QJ1 so r0) (h1 : QJ1 so r1) (hJ : Q1 so J) : Q1 so (jpr r0 r1 A J).1 := by
  unfold jpr
  split
  · exact h1 _ _ (h _ _ hJ)
  · exact h1 _ _ (h _ _ hJ)
theorem q_jhf {so : Int → Int} {r0 : JF} {p sb : Int} {J : JT} (h : QJ1 so r0) (hJ : Q1 so J) : Q1 so (jhf r0 p sb J).1 := by
  unfold jhf
  split
  · exact h _ _ hJ
  · exact h _ _ hJ
  · exact q_jsn (h _ _ hJ) (by decide)
theorem pO_0 {z : Int} (h0 : 0 ≤ z) (h1 : z < 16) (h : pO z = 0) : z ≤ 3 := by
  rcases (show z = 0 ∨ z = 1 ∨ z = 2 ∨ z = 3 ∨ z = 4 ∨ z = 5 ∨ z = 6 ∨ z = 7 ∨ z = 8 ∨ z = 9 ∨ z = 10 ∨ z = 11 ∨ z = 12 ∨ z = 13 ∨ z = 14 ∨ z = 15 by omega) with e | e | e | e | e | e | e | e | e | e | e | e | e | e | e | e <;> rw [e] at h ⊢ <;> first | decide | (exact absurd h (by decide))
theorem jd_one {so nu td pa up pl : Int → Int} {kk : Int → Term} {bd : Int → Int → Int} {B : Int} : ∀ (n : Nat) (t : Term), SizeOf.sizeOf t < n → AT so pa up pl B t → full so t → QJ1 so (jd so nu td pa kk bd t) := by
  intro n
  induction n with
  | zero => intro t h; omega
  | succ n ih =>
    intro t hn hA hf A J hJ
    cases t with
    | index b =>
      have h3 : so b ≤ 3 := pO_0 hA.2.1 hA.2.2 hf.symm
      have h0 := hA.2.1
      rw [jd_0]
      refine q_jen ?_
      by_cases e0 : so b = 0
      · rw [if_pos e0]; exact q_jin hJ
      · rw [if_neg e0]
        by_cases e1 : so b = 1
        · rw [if_pos e1]; exact q_jin hJ
        · rw [if_neg e1]
          by_cases e2 : so b = 2
          · rw [if_pos e2]; exact q_jin hJ
          · rw [if_neg e2]
            unfold jnm
            split
            · intro x hx
              have hx : (if x = (b : Int) then (1 : Int) else (jin b A J).2.2 x) = 1 := hx
              by_cases e : x = b
              · rw [e]; omega
              · rw [if_neg e] at hx
                exact q_jin hJ x hx
            · split
              · exact q_jin hJ
              · exact q_jin hJ
    | add t1 y =>
      simp only [Term.add.sizeOf_spec] at hn
      have qy := ih y (by omega) hA.2.1 hA.2.2.1
      cases t1 with
      | index b =>
        rw [jd_1]
        refine q_jen ?_
        split
        · exact q_jdf qy (q_jin hJ)
        · split
          · exact qy _ _ (q_jin hJ)
          · exact q_jhf qy (q_jin hJ)
      | add t2 x =>
        simp only [Term.add.sizeOf_spec] at hn
        have qx := ih x (by omega) hA.1.2.1 hA.1.2.2.1
        cases t2 with
        | index b =>
          rw [jd_2]
          refine q_jen ?_
          split
          · exact q_jus qx qy (q_jin hJ)
          · split
            · exact qy _ _ (qx _ _ (q_jin hJ))
            · split
              · exact q_jpr qx qy (q_jin hJ)
              · exact qy _ _ (qx _ _ (q_jin hJ))
        | add t3 z =>
          simp only [Term.add.sizeOf_spec] at hn
          have qz := ih z (by omega) hA.1.1.2.1 hA.1.1.2.2.1
          cases t3 with
          | index b =>
            rw [jd_3]
            exact q_jen (q_jpk qz qx qy (q_jin hJ))
          | add t4 w =>
            exfalso
            have h1 := hA.2.2.2.1
            have h2 := na_ge t4
            have h3 : na (Term.add (.add (.add t4 w) z) x) = na t4 + 1 + 1 + 1 := rfl
            have h4 := pO_in (so (hd (Term.add (.add (.add t4 w) z) x)))
            omega
          | _ => exact hA.1.1.1.elim
        | _ => exact hA.1.1.elim
      | _ => exact hA.1.elim
    | _ => exact hA.elim
theorem jdg_one {s : SM} {t : Term} (hS : SHT s t) {x : Int} (h : (jdg s t).2.2 x = 1) : s.2 9 x = 3 :=
  jd_one (SizeOf.sizeOf t + 1) t (Nat.lt_succ_self _) hS.1 hS.2.1 none J0 (fun x hx => by cases hx) x h
