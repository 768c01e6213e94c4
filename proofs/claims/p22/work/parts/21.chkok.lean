/-! That the checks suffice. -/
theorem cf_ok {L : Nat} {xs : Nat → Int32} {x y : Nat} (h : cfB x y = true) : CFok Ts0 (mG L xs) YB0 x y := by
  unfold cfB at h
  obtain ⟨h0, h⟩ := cf_all (of_decide_eq_true h)
  unfold cfQ at h
  simp only [Bool.and_eq_true, decide_eq_true_eq] at h
  exact ⟨h0, wat_in h.1, h.2.1, ⟨h.2.2.1, h.2.2.2.1⟩, h.2.2.2.2⟩
theorem any_in {P : Cond → Bool} {w : Cond} (hP : ∀ v, P v = true → v = w) (h : NW0.any P = true) : w ∈ NW0 := by
  obtain ⟨v, h1, h2⟩ := List.any_eq_true.mp h
  rw [← hP v h2]
  exact h1
theorem ml_ok {ci : Nat} {own : String} {idx : Nat} {y : MethodName} (h : mlB ci own idx y = true) : Cond.methodLink own idx y ∈ Ts0 ∨ ∃ host : String, Cond.methodLinkNest own idx y host ∈ NW0 := by
  unfold mlB at h
  rcases Bool.or_eq_true _ _ ▸ h with h | h
  · exact Or.inl (wat_in h)
  · obtain ⟨v, h1, h2⟩ := List.any_eq_true.mp h
    unfold isNestTo at h2
    split at h2
    · simp only [Bool.and_eq_true, decide_eq_true_eq] at h2
      obtain ⟨rfl, rfl, rfl⟩ := h2
      exact Or.inr ⟨_, h1⟩
    · cases h2
/-- words that every place may lean on -/
def words0 : Prop := Cond.instanceMethod Lib.objectInit ∈ Ts0 ∧ Cond.code Lib.objectInit ⟨#[0xb1]⟩ 1 none ∈ Ts0 ∧ Cond.static Lib.Math.min.name ∈ Ts0 ∧ Cond.initialized "java/lang/Math" ∈ Ts0 ∧ Cond.code Lib.Math.min.name Lib.Math.min.code 2 (some .int) ∈ Ts0 ∧ Cond.arrayClass .int ∈ Ts0 ∧ Cond.arrayClass .byte ∈ Ts0 ∧ Cond.arrayClass .boolean ∈ Ts0 ∧ ∀ w ∈ strL, w ∈ Ts0
theorem chkX_ok {L : Nat} {xs : Nat → Int32} {M pc x y : Nat} {i : Instr} (hw : words0) (h : chkX M pc i x y = true) : EXok Ts0 NW0 cl0 tyL0 (mG L xs) YB0 M pc i x y := by
  cases i with
  | goto off => exact (of_decide_eq_true (p := (pc : Int) + off = (x : Int)) h)
  | ifnull off => exact (of_decide_eq_true (p := (pc : Int) + off = (x : Int)) h)
  | ifnonnull off => exact (of_decide_eq_true (p := (pc : Int) + off = (x : Int)) h)
  | ifCond a off => exact (of_decide_eq_true (p := (pc : Int) + off = (x : Int)) h)
  | if_icmp a off => exact (of_decide_eq_true (p := (pc : Int) + off = (x : Int)) h)
  | if_acmp a off => exact (of_decide_eq_true (p := (pc : Int) + off = (x : Int)) h)
  | tableswitch d lo hi offs =>
    simp only [chkX, chkG, Bool.and_eq_true, decide_eq_true_eq, List.all_eq_true] at h
    exact ⟨h.1, h.2.1, h.2.2⟩
  | ldc idx =>
    simp only [chkX, chkG, Bool.and_eq_true, Bool.or_eq_true, decide_eq_true_eq] at h
    rcases h with h | h
    · exact Or.inl ⟨h.1, wat_in h.2⟩
    · obtain ⟨q, h1, h2⟩ := List.any_eq_true.mp h.2.2
      simp only [Bool.and_eq_true, decide_eq_true_eq] at h2
      obtain ⟨q1, q2, q3, q4⟩ := q
      obtain ⟨rfl, rfl, rfl⟩ := h2
      exact Or.inr ⟨h.1, h.2.1, q3, h1⟩
  | ldc_w idx =>
    simp only [chkX, chkG, Bool.and_eq_true, Bool.or_eq_true, decide_eq_true_eq] at h
    rcases h with h | h
    · exact Or.inl ⟨h.1, wat_in h.2⟩
    · obtain ⟨q, h1, h2⟩ := List.any_eq_true.mp h.2.2
      simp only [Bool.and_eq_true, decide_eq_true_eq] at h2
      obtain ⟨q1, q2, q3, q4⟩ := q
      obtain ⟨rfl, rfl, rfl⟩ := h2
      exact Or.inr ⟨h.1, h.2.1, q3, h1⟩
  | ldc2_w idx => exact wat_in h
  | getfield idx =>
    simp only [chkX, chkG] at h
    cases hc : cl0[x]? with
    | none => rw [hc] at h; cases h
    | some w =>
      obtain ⟨C, T, N⟩ := w
      rw [hc] at h
      simp only [Bool.and_eq_true, decide_eq_true_eq] at h
      exact ⟨C, T, N, kl_all _ _ _ _ hc, h.1, wat_in h.2⟩
  | putfield idx =>
    simp only [chkX, chkG] at h
    cases hc : cl0[x]? with
    | none => rw [hc] at h; cases h
    | some w =>
      obtain ⟨C, T, N⟩ := w
      rw [hc] at h
      simp only [Bool.and_eq_true, Bool.or_eq_true, decide_eq_true_eq] at h
      refine ⟨C, T, N, kl_all _ _ _ _ hc, h.1, wat_in h.2.1, ?_⟩
      by_cases hf : (T y).2.2.2 = false
      · exact Or.inl hf
      · exact Or.inr ⟨by simpa using hf, h.2.2.resolve_left hf⟩
  | getstatic idx =>
    simp only [chkX, chkG, Bool.and_eq_true, Bool.or_eq_true, decide_eq_true_eq] at h
    exact ⟨h.1, h.2.imp wat_in (any_in (fun v hv => of_decide_eq_true hv))⟩
  | baload =>
    simp only [chkX, chkG, Bool.or_eq_true, decide_eq_true_eq] at h
    exact h
  | bastore =>
    simp only [chkX, chkG, Bool.or_eq_true, decide_eq_true_eq] at h
    exact h
  | aastore =>
    simp only [chkX, chkG] at h
    cases hc : cl0[y]? with
    | none => rw [hc] at h; cases h
    | some w =>
      obtain ⟨C, T, N⟩ := w
      cases ht : tyL0[x]? with
      | none => rw [hc, ht] at h; cases h
      | some t =>
        rw [hc, ht] at h
        have h : t = .object C := of_decide_eq_true h
        subst h
        exact ⟨C, T, N, ht, hc⟩
  | newarray a =>
    simp only [chkX, chkG, Bool.and_eq_true, Bool.or_eq_true, decide_eq_true_eq] at h
    rcases h with h | h | h
    · exact Or.inl ⟨h.1, h.2, hw.2.2.2.2.2.1⟩
    · exact Or.inr (Or.inl ⟨h.1, h.2, hw.2.2.2.2.2.2.1⟩)
    · exact Or.inr (Or.inr ⟨h.1, h.2, hw.2.2.2.2.2.2.2.1⟩)
  | anewarray idx =>
    simp only [chkX, chkG] at h
    split at h
    · rename_i C hC
      simp only [Bool.and_eq_true] at h
      exact ⟨C, wat_in h.1, any_in (fun v hv => of_decide_eq_true hv) h.2, hC⟩
    · cases h
  | new idx =>
    simp only [chkX, chkG] at h
    cases hc : cl0[x]? with
    | none => rw [hc] at h; cases h
    | some w =>
      obtain ⟨C, T, N⟩ := w
      rw [hc] at h
      exact ⟨C, T, N, kl_all _ _ _ _ hc, wat_in h⟩
  | invokespecial idx =>
    simp only [chkX, chkG, Bool.and_eq_true, Bool.or_eq_true, Bool.not_eq_true', decide_eq_true_eq, decide_eq_false_iff_not] at h
    rcases h with h | h
    · exact Or.inl ⟨h.1, wat_in h.2, hw.1, hw.2.1⟩
    · exact Or.inr ⟨h.1, cf_ok h.2.1, ml_ok h.2.2.1, wat_in h.2.2.2.1, h.2.2.2.2.1, h.2.2.2.2.2⟩
  | invokestatic idx =>
    simp only [chkX, chkG, Bool.and_eq_true, Bool.or_eq_true, Bool.not_eq_true', decide_eq_true_eq, decide_eq_false_iff_not] at h
    rcases h with h | h
    · exact Or.inl ⟨h.1, wat_in h.2, hw.2.2.1, hw.2.2.2.1, hw.2.2.2.2.1⟩
    · exact Or.inr ⟨h.1, cf_ok h.2.1, ml_ok h.2.2.1, wat_in h.2.2.2⟩
  | invokevirtual idx =>
    simp only [chkX, chkG, Bool.and_eq_true, Bool.or_eq_true, Bool.not_eq_true', decide_eq_false_iff_not, decide_eq_true_eq] at h
    rcases h with h | h | h
    · exact Or.inl ⟨h.1, wat_in h.2, hw.2.2.2.2.2.2.2.2⟩
    · exact Or.inr (Or.inl ⟨h.1, wat_in h.2, hw.2.2.2.2.2.2.2.2⟩)
    obtain ⟨h1, h2, h3, h4, h5, h6, h7⟩ := h
    refine Or.inr (Or.inr ⟨h1, h2, cf_ok h3, wat_in h4, wat_in h5, wat_in h6, ?_⟩)
    cases hc : cl0[(l2 mcls x).getD 0]? with
    | none => rw [hc] at h7; cases h7
    | some w =>
      obtain ⟨C, T, N⟩ := w
      rw [hc] at h7
      have h7 : C = (YB0 x).1.cls := of_decide_eq_true h7
      subst h7
      exact ⟨T, N, hc⟩
  | _ => trivial
theorem chkE_ok {L : Nat} {xs : Nat → Int32} {M pc nx x y : Nat} {i : Instr} (hw : words0) (h : (chkE M).2 pc (i, nx, x, y) ((chkE M).1.drop pc) = true) (hk : ¬ ikd i = 4) : EOK Ts0 NW0 cl0 tyL0 (mG L xs) YB0 M pc i nx x y := by
  have h : (decide (ikd i = 4) || (chkD (YB0 M).2 pc (i, nx, x, y) ((YB0 M).2.data.toList.drop pc) && (chkM M (i, nx, x, y) || chkX M pc i x y))) = true := h
  simp only [Bool.or_eq_true, decide_eq_true_eq, Bool.and_eq_true] at h
  obtain ⟨h1, h2⟩ := h.resolve_left hk
  have h2 : chkX M pc i x y = true := h2.elim (fun q => mlc_ok q pc) id
  refine ⟨?_, chkX_ok hw h2⟩
  unfold chkD at h1
  by_cases hs : isSw i = true
  · have h1 : (if isSw i then (match decode (YB0 M).2 pc with
      | .ok (j, _) => decide (j = i)
      | _ => false) else chkI i ((YB0 M).2.data.toList.drop pc) && decide (nx = pc + ilen i)) = true := h1
    rw [if_pos hs] at h1
    cases hd : decode (YB0 M).2 pc with
    | error er => rw [hd] at h1; cases h1
    | ok q =>
      obtain ⟨j, n⟩ := q
      rw [hd] at h1
      obtain rfl := of_decide_eq_true (show decide (j = i) = true from h1)
      cases j with
      | tableswitch a b c d => exact ⟨n, rfl⟩
      | _ => cases hs
  · have h1 : (if isSw i then (match decode (YB0 M).2 pc with
      | .ok (j, _) => decide (j = i)
      | _ => false) else chkI i ((YB0 M).2.data.toList.drop pc) && decide (nx = pc + ilen i)) = true := h1
    rw [if_neg hs] at h1
    simp only [Bool.and_eq_true, decide_eq_true_eq] at h1
    have h3 := chkI_ok h1.1
    cases i with
    | tableswitch a b c d => exact absurd rfl hs
    | _ => exact ⟨h3, h1.2⟩
