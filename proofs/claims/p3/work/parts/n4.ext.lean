/-! A run without the script is a run with any script. -/
def mGn : GI := ((mG 0 (fun _ => 0)).1, (mG 0 (fun _ => 0)).2.1, fun a => if a = 0 then none else mext 0 (fun _ => 0) a, (mG 0 (fun _ => 0)).2.2.2)
def iv6 : List (Int × Int) := List.replicate 6 (-1099511627776, 1099511627776)
theorem ext_n {L a : Nat} {q : Nat × (Nat → Int32)} (h : mGn.2.2.1 a = some q) : a ≠ 0 ∧ (mG L (fun _ => 0)).2.2.1 a = some q := by
  have h : (if a = 0 then none else mext 0 (fun _ => 0) a) = some q := h
  by_cases e : a = 0
  · rw [if_pos e] at h; cases h
  · rw [if_neg e] at h
    refine ⟨e, ?_⟩
    show mext L (fun _ => 0) a = some q
    unfold mext at h ⊢
    rw [if_neg e] at h ⊢
    exact h
theorem irow_n {iv : List (Int × Int)} {L a t : Nat} {h : MH} {q : Nat × (Nat → Value)} (hq : irow iv6 mGn h a t = some q) : irow iv (mG L (fun _ => 0)) h a t = some q := by
  unfold irow at hq ⊢
  by_cases e : a < 8
  · rw [if_pos e] at hq ⊢
    by_cases e2 : t = 0
    · rw [if_pos e2] at hq ⊢
      cases e3 : mGn.2.2.1 a with
      | none => rw [e3] at hq; cases hq
      | some w =>
        obtain ⟨n, f⟩ := w
        obtain ⟨g1, g2⟩ := ext_n (L := L) e3
        rw [e3] at hq
        rw [g2]
        simp only [if_neg g1] at hq ⊢
        exact hq
    · rw [if_neg e2] at hq
      cases hq
  · rw [if_neg e] at hq ⊢
    exact hq
theorem step_ext {iv : List (Int × Int)} {L M pc nx x y : Nat} {i : Instr} {ls : ML} {st : List Value} {h : MH} {z : ST} (h6 : 6 ≤ iv.length) (hs : stepI iv6 mGn M pc i nx x y ls st h = some z) : stepI iv (mG L (fun _ => 0)) M pc i nx x y ls st h = some z := by
  cases i
  all_goals first | exact hs | skip
  case arraylength =>
    unfold stepI at hs ⊢
    cases st with
    | nil => cases hs
    | cons v r =>
      cases v with
      | ref a =>
        simp only [s1r, s1] at hs ⊢
        by_cases e : a < 8
        · rw [if_pos e] at hs ⊢
          cases e3 : mGn.2.2.1 a with
          | none => rw [e3] at hs; cases hs
          | some w =>
            rw [e3] at hs
            rw [(ext_n (L := L) e3).2]
            exact hs
        · rw [if_neg e] at hs ⊢
          exact hs
      | _ => cases hs
  case iaload =>
    unfold stepI at hs ⊢
    cases st with
    | nil => cases hs
    | cons v r =>
      cases v with
      | int q =>
        cases r with
        | nil => cases hs
        | cons v r =>
          cases v with
          | ref a =>
            simp only [s1i, s1r, s1] at hs ⊢
            cases e3 : irow iv6 mGn h a 0 with
            | none => rw [e3] at hs; cases hs
            | some w =>
              rw [e3] at hs
              rw [irow_n e3]
              exact hs
          | _ => cases hs
      | _ => cases hs
  case baload =>
    unfold stepI at hs ⊢
    cases st with
    | nil => cases hs
    | cons v r =>
      cases v with
      | int q =>
        cases r with
        | nil => cases hs
        | cons v r =>
          cases v with
          | ref a =>
            simp only [s1i, s1r, s1] at hs ⊢
            cases e3 : irow iv6 mGn h a x with
            | none => rw [e3] at hs; cases hs
            | some w =>
              rw [e3] at hs
              rw [irow_n e3]
              exact hs
          | _ => cases hs
      | _ => cases hs
  case iinc k n =>
    unfold stepI at hs ⊢
    simp only at hs ⊢
    cases e : lkl ls k with
    | none => rw [e] at hs; cases hs
    | some v =>
      rw [e] at hs
      cases v with
      | int a => exact hs
      | retAddr j =>
        simp only at hs
        obtain ⟨h1, -⟩ := if_ok hs
        simp only [Bool.and_eq_true, decide_eq_true_eq] at h1
        exact absurd h1.2.2.2 (by decide)
      | _ => cases hs
  case iand =>
    unfold stepI at hs ⊢
    cases st with
    | nil => cases hs
    | cons v r =>
      cases r with
      | nil => cases v <;> cases hs
      | cons w r =>
        cases v with
        | int a =>
          cases w with
          | int b => exact hs
          | retAddr j =>
            have hs : (if decide (j < 4) && (decide (a = 63) && decide (iv6.length ≤ 5)) then okk nx ls (.retAddr (j + 4) :: r) h else none) = some z := hs
            obtain ⟨h1, -⟩ := if_ok hs
            simp only [Bool.and_eq_true, decide_eq_true_eq] at h1
            exact absurd h1.2.2 (by decide)
          | _ => cases hs
        | retAddr j => cases w <;> cases hs
        | _ => cases hs
  case invokevirtual k =>
    unfold stepI at hs ⊢
    simp only at hs ⊢
    by_cases e1 : x = 9001
    · rw [if_pos e1] at hs ⊢
      cases st with
      | nil => cases hs
      | cons v r =>
        cases v with
        | int q =>
          cases r with
          | nil => cases hs
          | cons v r =>
            cases v with
            | ref a =>
              simp only [s1i, s1r, s1] at hs ⊢
              obtain ⟨g, hs⟩ := if_ok hs
              rw [if_pos g]
              cases e3 : mGn.2.2.1 a with
              | none => rw [e3] at hs; cases hs
              | some w =>
                rw [e3] at hs
                rw [(ext_n (L := L) e3).2]
                exact hs
            | _ => cases hs
        | _ => cases hs
    · rw [if_neg e1] at hs ⊢
      by_cases e2 : x = 9002
      · rw [if_pos e2] at hs ⊢
        cases st with
        | nil => cases hs
        | cons v r =>
          cases v with
          | ref a =>
            simp only [s1r, s1] at hs ⊢
            obtain ⟨g, hs⟩ := if_ok hs
            rw [if_pos g]
            cases e3 : mGn.2.2.1 a with
            | none => rw [e3] at hs; cases hs
            | some w =>
              rw [e3] at hs
              rw [(ext_n (L := L) e3).2]
              exact hs
          | _ => cases hs
      · rw [if_neg e2] at hs ⊢
        exact hs
/-- a condition that these bounds decide is of two ints, or of one of the script's with itself -/
theorem lh6 {v : Value} {a b : Int} (h : lohi iv6 v = some (a, b)) : (∃ z : Int32, v = .int z ∧ a = z.toInt ∧ b = z.toInt) ∨ (∃ j, v = .retAddr j ∧ j < 6 ∧ a = -1099511627776 ∧ b = 1099511627776) := by
  cases v with
  | int z =>
    have h : some (z.toInt, z.toInt) = some (a, b) := h
    injection h with h
    injection h with h1 h2
    exact Or.inl ⟨z, rfl, h1.symm, h2.symm⟩
  | retAddr j =>
    have h : iv6[j]? = some (a, b) := h
    have hl := (List.getElem?_eq_some_iff.mp h).1
    have hl : j < 6 := hl
    have hm := List.mem_of_getElem? h
    have := List.eq_of_mem_replicate hm
    injection this with h1 h2
    exact Or.inr ⟨j, rfl, hl, h1, h2⟩
  | _ => cases h
