section
/-! The classes of the tables, by the words. -/
theorem NW0_nst : ∀ w ∈ NW0, nst w := by
  intro w hw
  simp only [NW0, List.mem_cons, List.not_mem_nil, or_false] at hw
  rcases hw with rfl | rfl | rfl | rfl | rfl | rfl | rfl | rfl | rfl | rfl | rfl | rfl | rfl | rfl | rfl
  · exact Or.inr (Or.inr ⟨_, rfl⟩)
  · exact Or.inr (Or.inr ⟨_, rfl⟩)
  · exact Or.inl ⟨_, _, _, _, _, _, rfl⟩
  · exact Or.inr (Or.inl ⟨_, _, _, _, rfl⟩)
  · exact Or.inr (Or.inl ⟨_, _, _, _, rfl⟩)
  · exact Or.inr (Or.inl ⟨_, _, _, _, rfl⟩)
  · exact Or.inr (Or.inr ⟨_, rfl⟩)
  · exact Or.inr (Or.inr ⟨_, rfl⟩)
  · exact Or.inr (Or.inl ⟨_, _, _, _, rfl⟩)
  · exact Or.inr (Or.inr ⟨_, rfl⟩)
  · exact Or.inr (Or.inl ⟨_, _, _, _, rfl⟩)
  · exact Or.inr (Or.inl ⟨_, _, _, _, rfl⟩)
  · exact Or.inr (Or.inl ⟨_, _, _, _, rfl⟩)
  · exact Or.inr (Or.inl ⟨_, _, _, _, rfl⟩)
  · exact Or.inr (Or.inl ⟨_, _, _, _, rfl⟩)
theorem tyL0_ok : mTL tyL0 := by
  refine ⟨rfl, rfl, rfl, fun ti h3 h8 => ?_⟩
  rcases (show ti = 3 ∨ ti = 4 ∨ ti = 5 ∨ ti = 6 ∨ ti = 7 by omega) with rfl | rfl | rfl | rfl | rfl <;> exact ⟨_, rfl⟩
theorem kl_of {L : Nat} {xs : Nat → Int32} {i N : Nat} {C : String} {F : List (String × String × String × Bool)} {hl : List (Nat × Nat)} {qi qn : Nat × Nat} (h1 : cl0[i]? = some (C, tfl F, N))
    (h2 : (List.range N).all (fun k => match hl[k]? with
      | some q => wat q (u_lay C (tfl F) k)
      | none => false) = true)
    (h3 : (List.range N).all (fun k => decide ((tfl F k).1 = C) && decide (parseFieldDescriptor (tfl F k).2.2.1 = some ((fts.getD i []).getD k .int))) = true)
    (h4 : ∀ a, a < N → ∀ b, b < N → a ≠ b → (tfl F a).2.1 ≠ (tfl F b).2.1) (h5 : (bls.getD i []).length = N)
    (h6 : (List.range N).all (fun k => decide (defaultValue ((fts.getD i []).getD k .int) = vp_V (bls.getD i []) k)) = true) (h7 : (bls.getD i []).all (fun v => match v with
      | .ref _ | .retAddr _ => false
      | _ => true) = true) (h8 : wat qi (.instantiable C N) = true) (h9 : wat qn (.initialized C) = true) : mKl cl0 Ts0 (mG L xs) i C (tfl F) N := by
  refine ⟨h1, fun w hw => ?_, fun k hk => ?_, h4, h5, fun j hj => ?_, fun v hv => ⟨fun a e => ?_, fun j e => ?_⟩, wat_in h8, wat_in h9⟩
  · obtain ⟨k, hk, rfl⟩ := List.mem_map.mp hw
    have h := List.all_eq_true.mp h2 k hk
    cases hq : hl[k]? with
    | none => rw [hq] at h; cases h
    | some q => rw [hq] at h; exact wat_in h
  · have h := List.all_eq_true.mp h3 k (List.mem_range.mpr hk)
    simp only [Bool.and_eq_true, decide_eq_true_eq] at h
    exact h
  · exact of_decide_eq_true (List.all_eq_true.mp h6 j (List.mem_range.mpr hj))
  · have h := List.all_eq_true.mp h7 v hv
    rw [e] at h
    cases h
  · have h := List.all_eq_true.mp h7 v hv
    rw [e] at h
    cases h
theorem kl_0 {L : Nat} {xs : Nat → Int32} : mKl cl0 Ts0 (mG L xs) 0 "HoleDesk" (tfl fl_0) 16 := kl_of (hl := hl_0) (qi := (1, 20)) (qn := (1, 1)) rfl (by decide +kernel) (by decide +kernel) (by decide +kernel) (by decide +kernel) (by decide +kernel) (by decide +kernel) (by decide +kernel) (by decide +kernel)
theorem kl_1 {L : Nat} {xs : Nat → Int32} : mKl cl0 Ts0 (mG L xs) 1 "HoleDesk$Copy" (tfl fl_1) 6 := kl_of (hl := hl_1) (qi := (2, 107)) (qn := (1, 10)) rfl (by decide +kernel) (by decide +kernel) (by decide +kernel) (by decide +kernel) (by decide +kernel) (by decide +kernel) (by decide +kernel) (by decide +kernel)
theorem kl_2 {L : Nat} {xs : Nat → Int32} : mKl cl0 Ts0 (mG L xs) 2 "HoleDesk$Judge" (tfl fl_2) 1 := kl_of (hl := hl_2) (qi := (2, 8)) (qn := (1, 6)) rfl (by decide +kernel) (by decide +kernel) (by decide +kernel) (by decide +kernel) (by decide +kernel) (by decide +kernel) (by decide +kernel) (by decide +kernel)
theorem kl_3 {L : Nat} {xs : Nat → Int32} : mKl cl0 Ts0 (mG L xs) 3 "HoleDesk$Kinds" (tfl fl_3) 6 := kl_of (hl := hl_3) (qi := (1, 28)) (qn := (1, 2)) rfl (by decide +kernel) (by decide +kernel) (by decide +kernel) (by decide +kernel) (by decide +kernel) (by decide +kernel) (by decide +kernel) (by decide +kernel)
theorem kl_4 {L : Nat} {xs : Nat → Int32} : mKl cl0 Ts0 (mG L xs) 4 "HoleDesk$Node" (tfl fl_4) 13 := kl_of (hl := hl_4) (qi := (1, 80)) (qn := (1, 4)) rfl (by decide +kernel) (by decide +kernel) (by decide +kernel) (by decide +kernel) (by decide +kernel) (by decide +kernel) (by decide +kernel) (by decide +kernel)
theorem kl_5 {L : Nat} {xs : Nat → Int32} : mKl cl0 Ts0 (mG L xs) 5 "HoleDesk$Pool" (tfl fl_5) 4 := kl_of (hl := hl_5) (qi := (2, 24)) (qn := (1, 8)) rfl (by decide +kernel) (by decide +kernel) (by decide +kernel) (by decide +kernel) (by decide +kernel) (by decide +kernel) (by decide +kernel) (by decide +kernel)
theorem kl_6 {L : Nat} {xs : Nat → Int32} : mKl cl0 Ts0 (mG L xs) 6 "HoleDesk$Seen" (tfl fl_6) 3 := kl_of (hl := hl_6) (qi := (4, 176)) (qn := (1, 18)) rfl (by decide +kernel) (by decide +kernel) (by decide +kernel) (by decide +kernel) (by decide +kernel) (by decide +kernel) (by decide +kernel) (by decide +kernel)
theorem kl_7 {L : Nat} {xs : Nat → Int32} : mKl cl0 Ts0 (mG L xs) 7 "HoleDesk$Sheet" (tfl fl_7) 8 := kl_of (hl := hl_7) (qi := (1, 67)) (qn := (1, 3)) rfl (by decide +kernel) (by decide +kernel) (by decide +kernel) (by decide +kernel) (by decide +kernel) (by decide +kernel) (by decide +kernel) (by decide +kernel)
theorem kl_8 {L : Nat} {xs : Nat → Int32} : mKl cl0 Ts0 (mG L xs) 8 "HoleDesk$Snapshot" (tfl fl_8) 6 := kl_of (hl := hl_8) (qi := (1, 186)) (qn := (1, 5)) rfl (by decide +kernel) (by decide +kernel) (by decide +kernel) (by decide +kernel) (by decide +kernel) (by decide +kernel) (by decide +kernel) (by decide +kernel)
theorem kl_9 {L : Nat} {xs : Nat → Int32} : mKl cl0 Ts0 (mG L xs) 9 "HoleDesk$Value" (tfl fl_9) 7 := kl_of (hl := hl_9) (qi := (4, 108)) (qn := (1, 17)) rfl (by decide +kernel) (by decide +kernel) (by decide +kernel) (by decide +kernel) (by decide +kernel) (by decide +kernel) (by decide +kernel) (by decide +kernel)
theorem kl_10 {L : Nat} {xs : Nat → Int32} : mKl cl0 Ts0 (mG L xs) 10 "HoleDesk$Worker" (tfl fl_10) 7 := kl_of (hl := hl_10) (qi := (2, 18)) (qn := (1, 7)) rfl (by decide +kernel) (by decide +kernel) (by decide +kernel) (by decide +kernel) (by decide +kernel) (by decide +kernel) (by decide +kernel) (by decide +kernel)
theorem kl_11 {L : Nat} {xs : Nat → Int32} : mKl cl0 Ts0 (mG L xs) 11 "HoleDesk$Writer" (tfl fl_11) 7 := kl_of (hl := hl_11) (qi := (2, 73)) (qn := (1, 9)) rfl (by decide +kernel) (by decide +kernel) (by decide +kernel) (by decide +kernel) (by decide +kernel) (by decide +kernel) (by decide +kernel) (by decide +kernel)
theorem kl_12 {L : Nat} {xs : Nat → Int32} : mKl cl0 Ts0 (mG L xs) 12 "HoleDeskModel" (tfl fl_12) 74 := kl_of (hl := hl_12) (qi := (5, 158)) (qn := (1, 11)) rfl (by decide +kernel) (by decide +kernel) (by decide +kernel) (by decide +kernel) (by decide +kernel) (by decide +kernel) (by decide +kernel) (by decide +kernel)
theorem kl_all {L : Nat} {xs : Nat → Int32} : ∀ (i : Nat) (C : String) (T : u_T) (N : Nat), cl0[i]? = some (C, T, N) → mKl cl0 Ts0 (mG L xs) i C T N := by
  intro i C T N h
  match i, h with
  | 0, h => cases h; exact kl_0
  | 1, h => cases h; exact kl_1
  | 2, h => cases h; exact kl_2
  | 3, h => cases h; exact kl_3
  | 4, h => cases h; exact kl_4
  | 5, h => cases h; exact kl_5
  | 6, h => cases h; exact kl_6
  | 7, h => cases h; exact kl_7
  | 8, h => cases h; exact kl_8
  | 9, h => cases h; exact kl_9
  | 10, h => cases h; exact kl_10
  | 11, h => cases h; exact kl_11
  | 12, h => cases h; exact kl_12
  | _ + 13, h => cases h
end
section
/-! That the checks suffice. -/
theorem cf_ok {L : Nat} {xs : Nat → Int32} {x y : Nat} (h : cfB x y = true) : CFok Ts0 (mG L xs) YB0 x y := by
  unfold cfB at h
  obtain ⟨h0, h⟩ := cf_all (of_decide_eq_true h)
  unfold cfQ at h
  simp only [Bool.and_eq_true, decide_eq_true_eq] at h
  exact ⟨h0, wat_in h.1, h.2.1, ⟨h.2.2.1, h.2.2.2.1⟩, h.2.2.2.2⟩
theorem any_in {P : Cond → Bool} {w : Cond} (hP : ∀ v, P v = true → v = w) (h : NW0.any P = true) : w ∈ NW0 := by
  obtain ⟨v, h1, h2⟩ := List.any_eq_true.mp h
  rw [← hP v h2]
  exact h1
theorem ml_ok {ci : Nat} {own : String} {idx : Nat} {y : MethodName} (h : mlB ci own idx y = true) : Cond.methodLink own idx y ∈ Ts0 ∨ ∃ host : String, Cond.methodLinkNest own idx y host ∈ NW0 := by
  unfold mlB at h
  rcases Bool.or_eq_true _ _ ▸ h with h | h
  · exact Or.inl (wat_in h)
  · obtain ⟨v, h1, h2⟩ := List.any_eq_true.mp h
    unfold isNestTo at h2
    split at h2
    · simp only [Bool.and_eq_true, decide_eq_true_eq] at h2
      obtain ⟨rfl, rfl, rfl⟩ := h2
      exact Or.inr ⟨_, h1⟩
    · cases h2
/-- words that every place may lean on -/
def words0 : Prop := Cond.instanceMethod Lib.objectInit ∈ Ts0 ∧ Cond.code Lib.objectInit ⟨#[0xb1]⟩ 1 none ∈ Ts0 ∧ Cond.static Lib.Math.min.name ∈ Ts0 ∧ Cond.initialized "java/lang/Math" ∈ Ts0 ∧ Cond.code Lib.Math.min.name Lib.Math.min.code 2 (some .int) ∈ Ts0 ∧ Cond.arrayClass .int ∈ Ts0 ∧ Cond.arrayClass .byte ∈ Ts0 ∧ Cond.arrayClass .boolean ∈ Ts0 ∧ ∀ w ∈ strL, w ∈ Ts0
theorem chkX_ok {L : Nat} {xs : Nat → Int32} {M pc x y : Nat} {i : Instr} (hw : words0) (h : chkX M pc i x y = true) : EXok Ts0 NW0 cl0 tyL0 (mG L xs) YB0 M pc i x y := by
  cases i with
  | goto off => exact (of_decide_eq_true (p := (pc : Int) + off = (x : Int)) h)
  | ifnull off => exact (of_decide_eq_true (p := (pc : Int) + off = (x : Int)) h)
  | ifnonnull off => exact (of_decide_eq_true (p := (pc : Int) + off = (x : Int)) h)
  | ifCond a off => exact (of_decide_eq_true (p := (pc : Int) + off = (x : Int)) h)
  | if_icmp a off => exact (of_decide_eq_true (p := (pc : Int) + off = (x : Int)) h)
  | if_acmp a off => exact (of_decide_eq_true (p := (pc : Int) + off = (x : Int)) h)
  | tableswitch d lo hi offs =>
    simp only [chkX, chkG, Bool.and_eq_true, decide_eq_true_eq, List.all_eq_true] at h
    exact ⟨h.1, h.2.1, h.2.2⟩
  | ldc idx =>
    simp only [chkX, chkG, Bool.and_eq_true, Bool.or_eq_true, decide_eq_true_eq] at h
    rcases h with h | h
    · exact Or.inl ⟨h.1, wat_in h.2⟩
    · obtain ⟨q, h1, h2⟩ := List.any_eq_true.mp h.2.2
      simp only [Bool.and_eq_true, decide_eq_true_eq] at h2
      obtain ⟨q1, q2, q3, q4⟩ := q
      obtain ⟨rfl, rfl, rfl⟩ := h2
      exact Or.inr ⟨h.1, h.2.1, q3, h1⟩
  | ldc_w idx =>
    simp only [chkX, chkG, Bool.and_eq_true, Bool.or_eq_true, decide_eq_true_eq] at h
    rcases h with h | h
    · exact Or.inl ⟨h.1, wat_in h.2⟩
    · obtain ⟨q, h1, h2⟩ := List.any_eq_true.mp h.2.2
      simp only [Bool.and_eq_true, decide_eq_true_eq] at h2
      obtain ⟨q1, q2, q3, q4⟩ := q
      obtain ⟨rfl, rfl, rfl⟩ := h2
      exact Or.inr ⟨h.1, h.2.1, q3, h1⟩
  | ldc2_w idx => exact wat_in h
  | getfield idx =>
    simp only [chkX, chkG] at h
    cases hc : cl0[x]? with
    | none => rw [hc] at h; cases h
    | some w =>
      obtain ⟨C, T, N⟩ := w
      rw [hc] at h
      simp only [Bool.and_eq_true, decide_eq_true_eq] at h
      exact ⟨C, T, N, kl_all _ _ _ _ hc, h.1, wat_in h.2⟩
  | putfield idx =>
    simp only [chkX, chkG] at h
    cases hc : cl0[x]? with
    | none => rw [hc] at h; cases h
    | some w =>
      obtain ⟨C, T, N⟩ := w
      rw [hc] at h
      simp only [Bool.and_eq_true, Bool.or_eq_true, decide_eq_true_eq] at h
      refine ⟨C, T, N, kl_all _ _ _ _ hc, h.1, wat_in h.2.1, ?_⟩
      by_cases hf : (T y).2.2.2 = false
      · exact Or.inl hf
      · exact Or.inr ⟨by simpa using hf, h.2.2.resolve_left hf⟩
  | getstatic idx =>
    simp only [chkX, chkG, Bool.and_eq_true, Bool.or_eq_true, decide_eq_true_eq] at h
    exact ⟨h.1, h.2.imp wat_in (any_in (fun v hv => of_decide_eq_true hv))⟩
  | baload =>
    simp only [chkX, chkG, Bool.or_eq_true, decide_eq_true_eq] at h
    exact h
  | bastore =>
    simp only [chkX, chkG, Bool.or_eq_true, decide_eq_true_eq] at h
    exact h
  | aastore =>
    simp only [chkX, chkG] at h
    cases hc : cl0[y]? with
    | none => rw [hc] at h; cases h
    | some w =>
      obtain ⟨C, T, N⟩ := w
      cases ht : tyL0[x]? with
      | none => rw [hc, ht] at h; cases h
      | some t =>
        rw [hc, ht] at h
        have h : t = .object C := of_decide_eq_true h
        subst h
        exact ⟨C, T, N, ht, hc⟩
  | newarray a =>
    simp only [chkX, chkG, Bool.and_eq_true, Bool.or_eq_true, decide_eq_true_eq] at h
    rcases h with h | h | h
    · exact Or.inl ⟨h.1, h.2, hw.2.2.2.2.2.1⟩
    · exact Or.inr (Or.inl ⟨h.1, h.2, hw.2.2.2.2.2.2.1⟩)
    · exact Or.inr (Or.inr ⟨h.1, h.2, hw.2.2.2.2.2.2.2.1⟩)
  | anewarray idx =>
    simp only [chkX, chkG] at h
    split at h
    · rename_i C hC
      simp only [Bool.and_eq_true] at h
      exact ⟨C, wat_in h.1, any_in (fun v hv => of_decide_eq_true hv) h.2, hC⟩
    · cases h
  | new idx =>
    simp only [chkX, chkG] at h
    cases hc : cl0[x]? with
    | none => rw [hc] at h; cases h
    | some w =>
      obtain ⟨C, T, N⟩ := w
      rw [hc] at h
      exact ⟨C, T, N, kl_all _ _ _ _ hc, wat_in h⟩
  | invokespecial idx =>
    simp only [chkX, chkG, Bool.and_eq_true, Bool.or_eq_true, Bool.not_eq_true', decide_eq_true_eq, decide_eq_false_iff_not] at h
    rcases h with h | h
    · exact Or.inl ⟨h.1, wat_in h.2, hw.1, hw.2.1⟩
    · exact Or.inr ⟨h.1, cf_ok h.2.1, ml_ok h.2.2.1, wat_in h.2.2.2.1, h.2.2.2.2.1, h.2.2.2.2.2⟩
  | invokestatic idx =>
    simp only [chkX, chkG, Bool.and_eq_true, Bool.or_eq_true, Bool.not_eq_true', decide_eq_true_eq, decide_eq_false_iff_not] at h
    rcases h with h | h
    · exact Or.inl ⟨h.1, wat_in h.2, hw.2.2.1, hw.2.2.2.1, hw.2.2.2.2.1⟩
    · exact Or.inr ⟨h.1, cf_ok h.2.1, ml_ok h.2.2.1, wat_in h.2.2.2⟩
  | invokevirtual idx =>
    simp only [chkX, chkG, Bool.and_eq_true, Bool.or_eq_true, Bool.not_eq_true', decide_eq_false_iff_not, decide_eq_true_eq] at h
    rcases h with h | h | h
    · exact Or.inl ⟨h.1, wat_in h.2, hw.2.2.2.2.2.2.2.2⟩
    · exact Or.inr (Or.inl ⟨h.1, wat_in h.2, hw.2.2.2.2.2.2.2.2⟩)
    obtain ⟨h1, h2, h3, h4, h5, h6, h7⟩ := h
    refine Or.inr (Or.inr ⟨h1, h2, cf_ok h3, wat_in h4, wat_in h5, wat_in h6, ?_⟩)
    cases hc : cl0[(l2 mcls x).getD 0]? with
    | none => rw [hc] at h7; cases h7
    | some w =>
      obtain ⟨C, T, N⟩ := w
      rw [hc] at h7
      have h7 : C = (YB0 x).1.cls := of_decide_eq_true h7
      subst h7
      exact ⟨T, N, hc⟩
  | _ => trivial
theorem chkE_ok {L : Nat} {xs : Nat → Int32} {M pc nx x y : Nat} {i : Instr} (hw : words0) (h : (chkE M).2 pc (i, nx, x, y) ((chkE M).1.drop pc) = true) (hk : ¬ ikd i = 4) : EOK Ts0 NW0 cl0 tyL0 (mG L xs) YB0 M pc i nx x y := by
  have h : (decide (ikd i = 4) || (chkD (YB0 M).2 pc (i, nx, x, y) ((YB0 M).2.data.toList.drop pc) && (chkM M (i, nx, x, y) || chkX M pc i x y))) = true := h
  simp only [Bool.or_eq_true, decide_eq_true_eq, Bool.and_eq_true] at h
  obtain ⟨h1, h2⟩ := h.resolve_left hk
  have h2 : chkX M pc i x y = true := h2.elim (fun q => mlc_ok q pc) id
  refine ⟨?_, chkX_ok hw h2⟩
  unfold chkD at h1
  by_cases hs : isSw i = true
  · have h1 : (if isSw i then (match decode (YB0 M).2 pc with
      | .ok (j, _) => decide (j = i)
      | _ => false) else chkI i ((YB0 M).2.data.toList.drop pc) && decide (nx = pc + ilen i)) = true := h1
    rw [if_pos hs] at h1
    cases hd : decode (YB0 M).2 pc with
    | error er => rw [hd] at h1; cases h1
    | ok q =>
      obtain ⟨j, n⟩ := q
      rw [hd] at h1
      obtain rfl := of_decide_eq_true (show decide (j = i) = true from h1)
      cases j with
      | tableswitch a b c d => exact ⟨n, rfl⟩
      | _ => cases hs
  · have h1 : (if isSw i then (match decode (YB0 M).2 pc with
      | .ok (j, _) => decide (j = i)
      | _ => false) else chkI i ((YB0 M).2.data.toList.drop pc) && decide (nx = pc + ilen i)) = true := h1
    rw [if_neg hs] at h1
    simp only [Bool.and_eq_true, decide_eq_true_eq] at h1
    have h3 := chkI_ok h1.1
    cases i with
    | tableswitch a b c d => exact absurd rfl hs
    | _ => exact ⟨h3, h1.2⟩
end
section
/-! Words that every place may lean on. -/
theorem strL_in : ∀ w ∈ strL, w ∈ Ts0 := by
  intro w hw
  simp only [strL, List.mem_cons, List.not_mem_nil, or_false] at hw
  rcases hw with rfl | rfl | rfl | rfl | rfl | rfl | rfl | rfl | rfl | rfl | rfl | rfl | rfl | rfl | rfl | rfl | rfl | rfl | rfl | rfl | rfl | rfl | rfl | rfl | rfl | rfl | rfl | rfl | rfl | rfl
  · exact wat_in (q := (3, 115)) (by decide +kernel)
  · exact wat_in (q := (3, 114)) (by decide +kernel)
  · exact wat_in (q := (1, 14)) (by decide +kernel)
  · exact wat_in (q := (3, 113)) (by decide +kernel)
  · exact wat_in (q := (3, 111)) (by decide +kernel)
  · exact wat_in (q := (3, 110)) (by decide +kernel)
  · exact wat_in (q := (3, 109)) (by decide +kernel)
  · exact wat_in (q := (1, 12)) (by decide +kernel)
  · exact wat_in (q := (3, 108)) (by decide +kernel)
  · exact wat_in (q := (3, 107)) (by decide +kernel)
  · exact wat_in (q := (3, 106)) (by decide +kernel)
  · exact wat_in (q := (1, 13)) (by decide +kernel)
  · exact wat_in (q := (3, 105)) (by decide +kernel)
  · exact wat_in (q := (3, 102)) (by decide +kernel)
  · exact wat_in (q := (3, 100)) (by decide +kernel)
  · exact wat_in (q := (3, 101)) (by decide +kernel)
  · exact wat_in (q := (3, 99)) (by decide +kernel)
  · exact wat_in (q := (3, 103)) (by decide +kernel)
  · exact wat_in (q := (8, 77)) (by decide +kernel)
  · exact wat_in (q := (8, 78)) (by decide +kernel)
  · exact wat_in (q := (3, 98)) (by decide +kernel)
  · exact wat_in (q := (3, 96)) (by decide +kernel)
  · exact wat_in (q := (3, 97)) (by decide +kernel)
  · exact wat_in (q := (5, 28)) (by decide +kernel)
  · exact wat_in (q := (5, 26)) (by decide +kernel)
  · exact wat_in (q := (5, 27)) (by decide +kernel)
  · exact wat_in (q := (5, 25)) (by decide +kernel)
  · exact wat_in (q := (5, 24)) (by decide +kernel)
  · exact wat_in (q := (5, 22)) (by decide +kernel)
  · exact wat_in (q := (5, 23)) (by decide +kernel)
theorem compact_lays : Cond.laysStatic "java/lang/String" "COMPACT_STRINGS" "Z" ∈ lw_tbl := tabs_in (j := 3) (List.mem_of_getElem? (i := 104) (by decide +kernel))
theorem sioobe_lays : Cond.laysStatic "jdk/internal/util/Preconditions" "SIOOBE_FORMATTER" "Ljava/util/function/BiFunction;" ∈ lw_tbl := tabs_in (j := 3) (List.mem_of_getElem? (i := 112) (by decide +kernel))
theorem string_init : Cond.initialized "java/lang/String" ∈ lw_tbl := tabs_in (j := 1) (List.mem_of_getElem? (i := 12) (by decide +kernel))
theorem precond_init : Cond.initialized "jdk/internal/util/Preconditions" ∈ lw_tbl := tabs_in (j := 1) (List.mem_of_getElem? (i := 14) (by decide +kernel))
theorem tref_0 : Cond.stringRef "HoleDesk$Kinds" 50 "?wtfp" ∈ lw_tbl := tabs_in (j := 3) (List.mem_of_getElem? (i := 94) (by decide +kernel))
theorem tref_1 : Cond.stringRef "HoleDesk$Writer" 74 "yes" ∈ lw_tbl := tabs_in (j := 5) (List.mem_of_getElem? (i := 15) (by decide +kernel))
theorem tref_2 : Cond.stringRef "HoleDesk$Writer" 76 "no" ∈ lw_tbl := tabs_in (j := 5) (List.mem_of_getElem? (i := 16) (by decide +kernel))
theorem tref_3 : Cond.stringRef "HoleDesk$Writer" 108 "+" ∈ lw_tbl := tabs_in (j := 5) (List.mem_of_getElem? (i := 37) (by decide +kernel))
theorem tref_4 : Cond.stringRef "HoleDesk$Writer" 110 "*" ∈ lw_tbl := tabs_in (j := 5) (List.mem_of_getElem? (i := 38) (by decide +kernel))
theorem tref_5 : Cond.stringRef "HoleDesk$Writer" 112 "/" ∈ lw_tbl := tabs_in (j := 5) (List.mem_of_getElem? (i := 39) (by decide +kernel))
theorem tref_6 : Cond.stringRef "HoleDesk$Writer" 114 "<" ∈ lw_tbl := tabs_in (j := 5) (List.mem_of_getElem? (i := 40) (by decide +kernel))
theorem tref_7 : Cond.stringRef "HoleDesk$Writer" 116 "use" ∈ lw_tbl := tabs_in (j := 5) (List.mem_of_getElem? (i := 41) (by decide +kernel))
theorem tref_8 : Cond.stringRef "HoleDesk$Writer" 118 "pick" ∈ lw_tbl := tabs_in (j := 5) (List.mem_of_getElem? (i := 42) (by decide +kernel))
theorem tref_9 : Cond.stringRef "HoleDesk$Writer" 120 "first" ∈ lw_tbl := tabs_in (j := 5) (List.mem_of_getElem? (i := 43) (by decide +kernel))
theorem tref_10 : Cond.stringRef "HoleDesk$Writer" 122 "second" ∈ lw_tbl := tabs_in (j := 5) (List.mem_of_getElem? (i := 44) (by decide +kernel))
theorem tref_11 : Cond.stringRef "HoleDeskModel" 439 "yes" ∈ lw_tbl := tabs_in (j := 8) (List.mem_of_getElem? (i := 16) (by decide +kernel))
theorem tref_12 : Cond.stringRef "HoleDeskModel" 441 "no" ∈ lw_tbl := tabs_in (j := 8) (List.mem_of_getElem? (i := 17) (by decide +kernel))
theorem tref_13 : Cond.stringRef "HoleDeskModel" 420 "+" ∈ lw_tbl := tabs_in (j := 8) (List.mem_of_getElem? (i := 27) (by decide +kernel))
theorem tref_14 : Cond.stringRef "HoleDeskModel" 422 "*" ∈ lw_tbl := tabs_in (j := 8) (List.mem_of_getElem? (i := 28) (by decide +kernel))
theorem tref_15 : Cond.stringRef "HoleDeskModel" 424 "/" ∈ lw_tbl := tabs_in (j := 8) (List.mem_of_getElem? (i := 29) (by decide +kernel))
theorem tref_16 : Cond.stringRef "HoleDeskModel" 426 "<" ∈ lw_tbl := tabs_in (j := 8) (List.mem_of_getElem? (i := 30) (by decide +kernel))
theorem tref_17 : Cond.stringRef "HoleDeskModel" 428 "use" ∈ lw_tbl := tabs_in (j := 8) (List.mem_of_getElem? (i := 31) (by decide +kernel))
theorem tref_18 : Cond.stringRef "HoleDeskModel" 430 "pick" ∈ lw_tbl := tabs_in (j := 8) (List.mem_of_getElem? (i := 32) (by decide +kernel))
theorem tref_19 : Cond.stringRef "HoleDeskModel" 432 "first" ∈ lw_tbl := tabs_in (j := 8) (List.mem_of_getElem? (i := 33) (by decide +kernel))
theorem tref_20 : Cond.stringRef "HoleDeskModel" 434 "second" ∈ lw_tbl := tabs_in (j := 8) (List.mem_of_getElem? (i := 34) (by decide +kernel))
theorem parts_lays : Cond.laysStatic "HoleDesk" "PARTS" "[I" ∈ lw_tbl := tabs_in (j := 1) (List.mem_of_getElem? (i := 86) (by decide +kernel))
theorem parts_init : Cond.initialized "HoleDesk" ∈ lw_tbl := tabs_in (j := 1) (List.mem_of_getElem? (i := 1) (by decide +kernel))
theorem words0_ok : words0 := ⟨wat_in (q := (1, 25)) (by decide +kernel), wat_in (q := (1, 26)) (by decide +kernel), wat_in (q := (3, 184)) (by decide +kernel), wat_in (q := (1, 16)) (by decide +kernel), wat_in (q := (3, 185)) (by decide +kernel), wat_in (q := (1, 65)) (by decide +kernel), wat_in (q := (3, 135)) (by decide +kernel), wat_in (q := (6, 155)) (by decide +kernel), strL_in⟩
end
section
/-! The texts that were there (printed by wip/gen/words.py). -/
theorem text_0 {s : State} {args : Array Value} (hts : ∀ w ∈ lw_tbl, w.before args s = true) (hs : ∀ w ∈ flatC (Jvm.Cond.and given_1 narrow_1), w.before args s = true) : ∃ q : Nat, vk_R "HoleDesk$Kinds" 50 "?wtfp" q s ∧ txF s.heap.size q 5 (fun j => ([63, 119, 116, 102, 112] : List Int32).getD j 0) s := by
  have hA : ∀ a : Nat, a < s.heap.size → ¬ s.heap.size ≤ a := fun a h => Nat.not_le.mpr h
  obtain ⟨adK, adV, h1, h2⟩ := vk_Sof (args := args) (s := s) (N := 1) (tm := fun _ => (.string "HoleDesk$Kinds" 50)) (len := [5]) (byt := [[63, 119, 116, 102, 112]]) (A := fun q => s.heap.size ≤ q)
    (fun i hi => by obtain rfl : i = 0 := by omega
                    decide)
    (fun i hi => hs (Cond.exactly (.string "HoleDesk$Kinds" 50) "java/lang/String") (by first | exact List.mem_of_getElem? (i := 28) rfl | decide +kernel))
    (fun i hi => hs (Cond.eq (.field (.string "HoleDesk$Kinds" 50) "java/lang/String" "coder" "B") (.int 0)) (by first | exact List.mem_of_getElem? (i := 29) rfl | decide +kernel))
    (fun i hi => hs (Cond.arrayOf (.field (.string "HoleDesk$Kinds" 50) "java/lang/String" "value" "[B") .byte) (by first | exact List.mem_of_getElem? (i := 30) rfl | decide +kernel))
    (fun i hi => by obtain rfl : i = 0 := by omega
                    exact hs (Cond.eq (.length (.field (.string "HoleDesk$Kinds" 50) "java/lang/String" "value" "[B")) (.int 5)) (by first | exact List.mem_of_getElem? (i := 31) rfl | decide +kernel))
    (fun i hi j hj => by
      obtain rfl : i = 0 := by omega
      have hj : j < 5 := hj
      rcases (show j = 0 ∨ j = 1 ∨ j = 2 ∨ j = 3 ∨ j = 4 by omega) with rfl | rfl | rfl | rfl | rfl
      · exact hs (Cond.eq (.elem (.field (.string "HoleDesk$Kinds" 50) "java/lang/String" "value" "[B") (.int 0)) (.int 63)) (by first | exact List.mem_of_getElem? (i := 32) rfl | decide +kernel)
      · exact hs (Cond.eq (.elem (.field (.string "HoleDesk$Kinds" 50) "java/lang/String" "value" "[B") (.int 1)) (.int 119)) (by first | exact List.mem_of_getElem? (i := 33) rfl | decide +kernel)
      · exact hs (Cond.eq (.elem (.field (.string "HoleDesk$Kinds" 50) "java/lang/String" "value" "[B") (.int 2)) (.int 116)) (by first | exact List.mem_of_getElem? (i := 34) rfl | decide +kernel)
      · exact hs (Cond.eq (.elem (.field (.string "HoleDesk$Kinds" 50) "java/lang/String" "value" "[B") (.int 3)) (.int 102)) (by first | exact List.mem_of_getElem? (i := 35) rfl | decide +kernel)
      · exact hs (Cond.eq (.elem (.field (.string "HoleDesk$Kinds" 50) "java/lang/String" "value" "[B") (.int 4)) (.int 112)) (by first | exact List.mem_of_getElem? (i := 36) rfl | decide +kernel))
    (fun i j hi hj hij => absurd (show i = j by omega) hij) hA
  obtain ⟨x1, x2, x3, x4⟩ := h1.1 0 (by decide)
  exact ⟨adK 0, vk_R.of (hts _ tref_0) (h2 0 (by decide)), adV 0, x1, x2, x3, x4⟩
theorem text_1 {s : State} {args : Array Value} (hts : ∀ w ∈ lw_tbl, w.before args s = true) (hs : ∀ w ∈ flatC (Jvm.Cond.and given_1 narrow_1), w.before args s = true) : ∃ q : Nat, vk_R "HoleDesk$Writer" 74 "yes" q s ∧ txF s.heap.size q 3 (fun j => ([121, 101, 115] : List Int32).getD j 0) s := by
  have hA : ∀ a : Nat, a < s.heap.size → ¬ s.heap.size ≤ a := fun a h => Nat.not_le.mpr h
  obtain ⟨adK, adV, h1, h2⟩ := vk_Sof (args := args) (s := s) (N := 1) (tm := fun _ => (.string "HoleDesk$Writer" 74)) (len := [3]) (byt := [[121, 101, 115]]) (A := fun q => s.heap.size ≤ q)
    (fun i hi => by obtain rfl : i = 0 := by omega
                    decide)
    (fun i hi => hs (Cond.exactly (.string "HoleDesk$Writer" 74) "java/lang/String") (by first | exact List.mem_of_getElem? (i := 37) rfl | decide +kernel))
    (fun i hi => hs (Cond.eq (.field (.string "HoleDesk$Writer" 74) "java/lang/String" "coder" "B") (.int 0)) (by first | exact List.mem_of_getElem? (i := 38) rfl | decide +kernel))
    (fun i hi => hs (Cond.arrayOf (.field (.string "HoleDesk$Writer" 74) "java/lang/String" "value" "[B") .byte) (by first | exact List.mem_of_getElem? (i := 39) rfl | decide +kernel))
    (fun i hi => by obtain rfl : i = 0 := by omega
                    exact hs (Cond.eq (.length (.field (.string "HoleDesk$Writer" 74) "java/lang/String" "value" "[B")) (.int 3)) (by first | exact List.mem_of_getElem? (i := 40) rfl | decide +kernel))
    (fun i hi j hj => by
      obtain rfl : i = 0 := by omega
      have hj : j < 3 := hj
      rcases (show j = 0 ∨ j = 1 ∨ j = 2 by omega) with rfl | rfl | rfl
      · exact hs (Cond.eq (.elem (.field (.string "HoleDesk$Writer" 74) "java/lang/String" "value" "[B") (.int 0)) (.int 121)) (by first | exact List.mem_of_getElem? (i := 41) rfl | decide +kernel)
      · exact hs (Cond.eq (.elem (.field (.string "HoleDesk$Writer" 74) "java/lang/String" "value" "[B") (.int 1)) (.int 101)) (by first | exact List.mem_of_getElem? (i := 42) rfl | decide +kernel)
      · exact hs (Cond.eq (.elem (.field (.string "HoleDesk$Writer" 74) "java/lang/String" "value" "[B") (.int 2)) (.int 115)) (by first | exact List.mem_of_getElem? (i := 43) rfl | decide +kernel))
    (fun i j hi hj hij => absurd (show i = j by omega) hij) hA
  obtain ⟨x1, x2, x3, x4⟩ := h1.1 0 (by decide)
  exact ⟨adK 0, vk_R.of (hts _ tref_1) (h2 0 (by decide)), adV 0, x1, x2, x3, x4⟩
theorem text_2 {s : State} {args : Array Value} (hts : ∀ w ∈ lw_tbl, w.before args s = true) (hs : ∀ w ∈ flatC (Jvm.Cond.and given_1 narrow_1), w.before args s = true) : ∃ q : Nat, vk_R "HoleDesk$Writer" 76 "no" q s ∧ txF s.heap.size q 2 (fun j => ([110, 111] : List Int32).getD j 0) s := by
  have hA : ∀ a : Nat, a < s.heap.size → ¬ s.heap.size ≤ a := fun a h => Nat.not_le.mpr h
  obtain ⟨adK, adV, h1, h2⟩ := vk_Sof (args := args) (s := s) (N := 1) (tm := fun _ => (.string "HoleDesk$Writer" 76)) (len := [2]) (byt := [[110, 111]]) (A := fun q => s.heap.size ≤ q)
    (fun i hi => by obtain rfl : i = 0 := by omega
                    decide)
    (fun i hi => hs (Cond.exactly (.string "HoleDesk$Writer" 76) "java/lang/String") (by first | exact List.mem_of_getElem? (i := 45) rfl | decide +kernel))
    (fun i hi => hs (Cond.eq (.field (.string "HoleDesk$Writer" 76) "java/lang/String" "coder" "B") (.int 0)) (by first | exact List.mem_of_getElem? (i := 46) rfl | decide +kernel))
    (fun i hi => hs (Cond.arrayOf (.field (.string "HoleDesk$Writer" 76) "java/lang/String" "value" "[B") .byte) (by first | exact List.mem_of_getElem? (i := 47) rfl | decide +kernel))
    (fun i hi => by obtain rfl : i = 0 := by omega
                    exact hs (Cond.eq (.length (.field (.string "HoleDesk$Writer" 76) "java/lang/String" "value" "[B")) (.int 2)) (by first | exact List.mem_of_getElem? (i := 48) rfl | decide +kernel))
    (fun i hi j hj => by
      obtain rfl : i = 0 := by omega
      have hj : j < 2 := hj
      rcases (show j = 0 ∨ j = 1 by omega) with rfl | rfl
      · exact hs (Cond.eq (.elem (.field (.string "HoleDesk$Writer" 76) "java/lang/String" "value" "[B") (.int 0)) (.int 110)) (by first | exact List.mem_of_getElem? (i := 49) rfl | decide +kernel)
      · exact hs (Cond.eq (.elem (.field (.string "HoleDesk$Writer" 76) "java/lang/String" "value" "[B") (.int 1)) (.int 111)) (by first | exact List.mem_of_getElem? (i := 50) rfl | decide +kernel))
    (fun i j hi hj hij => absurd (show i = j by omega) hij) hA
  obtain ⟨x1, x2, x3, x4⟩ := h1.1 0 (by decide)
  exact ⟨adK 0, vk_R.of (hts _ tref_2) (h2 0 (by decide)), adV 0, x1, x2, x3, x4⟩
theorem text_3 {s : State} {args : Array Value} (hts : ∀ w ∈ lw_tbl, w.before args s = true) (hs : ∀ w ∈ flatC (Jvm.Cond.and given_1 narrow_1), w.before args s = true) : ∃ q : Nat, vk_R "HoleDesk$Writer" 108 "+" q s ∧ txF s.heap.size q 1 (fun j => ([43] : List Int32).getD j 0) s := by
  have hA : ∀ a : Nat, a < s.heap.size → ¬ s.heap.size ≤ a := fun a h => Nat.not_le.mpr h
  obtain ⟨adK, adV, h1, h2⟩ := vk_Sof (args := args) (s := s) (N := 1) (tm := fun _ => (.string "HoleDesk$Writer" 108)) (len := [1]) (byt := [[43]]) (A := fun q => s.heap.size ≤ q)
    (fun i hi => by obtain rfl : i = 0 := by omega
                    decide)
    (fun i hi => hs (Cond.exactly (.string "HoleDesk$Writer" 108) "java/lang/String") (by first | exact List.mem_of_getElem? (i := 53) rfl | decide +kernel))
    (fun i hi => hs (Cond.eq (.field (.string "HoleDesk$Writer" 108) "java/lang/String" "coder" "B") (.int 0)) (by first | exact List.mem_of_getElem? (i := 54) rfl | decide +kernel))
    (fun i hi => hs (Cond.arrayOf (.field (.string "HoleDesk$Writer" 108) "java/lang/String" "value" "[B") .byte) (by first | exact List.mem_of_getElem? (i := 55) rfl | decide +kernel))
    (fun i hi => by obtain rfl : i = 0 := by omega
                    exact hs (Cond.eq (.length (.field (.string "HoleDesk$Writer" 108) "java/lang/String" "value" "[B")) (.int 1)) (by first | exact List.mem_of_getElem? (i := 56) rfl | decide +kernel))
    (fun i hi j hj => by
      obtain rfl : i = 0 := by omega
      have hj : j < 1 := hj
      rcases (show j = 0 by omega) with rfl
      · exact hs (Cond.eq (.elem (.field (.string "HoleDesk$Writer" 108) "java/lang/String" "value" "[B") (.int 0)) (.int 43)) (by first | exact List.mem_of_getElem? (i := 57) rfl | decide +kernel))
    (fun i j hi hj hij => absurd (show i = j by omega) hij) hA
  obtain ⟨x1, x2, x3, x4⟩ := h1.1 0 (by decide)
  exact ⟨adK 0, vk_R.of (hts _ tref_3) (h2 0 (by decide)), adV 0, x1, x2, x3, x4⟩
theorem text_4 {s : State} {args : Array Value} (hts : ∀ w ∈ lw_tbl, w.before args s = true) (hs : ∀ w ∈ flatC (Jvm.Cond.and given_1 narrow_1), w.before args s = true) : ∃ q : Nat, vk_R "HoleDesk$Writer" 110 "*" q s ∧ txF s.heap.size q 1 (fun j => ([42] : List Int32).getD j 0) s := by
  have hA : ∀ a : Nat, a < s.heap.size → ¬ s.heap.size ≤ a := fun a h => Nat.not_le.mpr h
  obtain ⟨adK, adV, h1, h2⟩ := vk_Sof (args := args) (s := s) (N := 1) (tm := fun _ => (.string "HoleDesk$Writer" 110)) (len := [1]) (byt := [[42]]) (A := fun q => s.heap.size ≤ q)
    (fun i hi => by obtain rfl : i = 0 := by omega
                    decide)
    (fun i hi => hs (Cond.exactly (.string "HoleDesk$Writer" 110) "java/lang/String") (by first | exact List.mem_of_getElem? (i := 61) rfl | decide +kernel))
    (fun i hi => hs (Cond.eq (.field (.string "HoleDesk$Writer" 110) "java/lang/String" "coder" "B") (.int 0)) (by first | exact List.mem_of_getElem? (i := 62) rfl | decide +kernel))
    (fun i hi => hs (Cond.arrayOf (.field (.string "HoleDesk$Writer" 110) "java/lang/String" "value" "[B") .byte) (by first | exact List.mem_of_getElem? (i := 63) rfl | decide +kernel))
    (fun i hi => by obtain rfl : i = 0 := by omega
                    exact hs (Cond.eq (.length (.field (.string "HoleDesk$Writer" 110) "java/lang/String" "value" "[B")) (.int 1)) (by first | exact List.mem_of_getElem? (i := 64) rfl | decide +kernel))
    (fun i hi j hj => by
      obtain rfl : i = 0 := by omega
      have hj : j < 1 := hj
      rcases (show j = 0 by omega) with rfl
      · exact hs (Cond.eq (.elem (.field (.string "HoleDesk$Writer" 110) "java/lang/String" "value" "[B") (.int 0)) (.int 42)) (by first | exact List.mem_of_getElem? (i := 65) rfl | decide +kernel))
    (fun i j hi hj hij => absurd (show i = j by omega) hij) hA
  obtain ⟨x1, x2, x3, x4⟩ := h1.1 0 (by decide)
  exact ⟨adK 0, vk_R.of (hts _ tref_4) (h2 0 (by decide)), adV 0, x1, x2, x3, x4⟩
theorem text_5 {s : State} {args : Array Value} (hts : ∀ w ∈ lw_tbl, w.before args s = true) (hs : ∀ w ∈ flatC (Jvm.Cond.and given_1 narrow_1), w.before args s = true) : ∃ q : Nat, vk_R "HoleDesk$Writer" 112 "/" q s ∧ txF s.heap.size q 1 (fun j => ([47] : List Int32).getD j 0) s := by
  have hA : ∀ a : Nat, a < s.heap.size → ¬ s.heap.size ≤ a := fun a h => Nat.not_le.mpr h
  obtain ⟨adK, adV, h1, h2⟩ := vk_Sof (args := args) (s := s) (N := 1) (tm := fun _ => (.string "HoleDesk$Writer" 112)) (len := [1]) (byt := [[47]]) (A := fun q => s.heap.size ≤ q)
    (fun i hi => by obtain rfl : i = 0 := by omega
                    decide)
    (fun i hi => hs (Cond.exactly (.string "HoleDesk$Writer" 112) "java/lang/String") (by first | exact List.mem_of_getElem? (i := 70) rfl | decide +kernel))
    (fun i hi => hs (Cond.eq (.field (.string "HoleDesk$Writer" 112) "java/lang/String" "coder" "B") (.int 0)) (by first | exact List.mem_of_getElem? (i := 71) rfl | decide +kernel))
    (fun i hi => hs (Cond.arrayOf (.field (.string "HoleDesk$Writer" 112) "java/lang/String" "value" "[B") .byte) (by first | exact List.mem_of_getElem? (i := 72) rfl | decide +kernel))
    (fun i hi => by obtain rfl : i = 0 := by omega
                    exact hs (Cond.eq (.length (.field (.string "HoleDesk$Writer" 112) "java/lang/String" "value" "[B")) (.int 1)) (by first | exact List.mem_of_getElem? (i := 73) rfl | decide +kernel))
    (fun i hi j hj => by
      obtain rfl : i = 0 := by omega
      have hj : j < 1 := hj
      rcases (show j = 0 by omega) with rfl
      · exact hs (Cond.eq (.elem (.field (.string "HoleDesk$Writer" 112) "java/lang/String" "value" "[B") (.int 0)) (.int 47)) (by first | exact List.mem_of_getElem? (i := 74) rfl | decide +kernel))
    (fun i j hi hj hij => absurd (show i = j by omega) hij) hA
  obtain ⟨x1, x2, x3, x4⟩ := h1.1 0 (by decide)
  exact ⟨adK 0, vk_R.of (hts _ tref_5) (h2 0 (by decide)), adV 0, x1, x2, x3, x4⟩
theorem text_6 {s : State} {args : Array Value} (hts : ∀ w ∈ lw_tbl, w.before args s = true) (hs : ∀ w ∈ flatC (Jvm.Cond.and given_1 narrow_1), w.before args s = true) : ∃ q : Nat, vk_R "HoleDesk$Writer" 114 "<" q s ∧ txF s.heap.size q 1 (fun j => ([60] : List Int32).getD j 0) s := by
  have hA : ∀ a : Nat, a < s.heap.size → ¬ s.heap.size ≤ a := fun a h => Nat.not_le.mpr h
  obtain ⟨adK, adV, h1, h2⟩ := vk_Sof (args := args) (s := s) (N := 1) (tm := fun _ => (.string "HoleDesk$Writer" 114)) (len := [1]) (byt := [[60]]) (A := fun q => s.heap.size ≤ q)
    (fun i hi => by obtain rfl : i = 0 := by omega
                    decide)
    (fun i hi => hs (Cond.exactly (.string "HoleDesk$Writer" 114) "java/lang/String") (by first | exact List.mem_of_getElem? (i := 80) rfl | decide +kernel))
    (fun i hi => hs (Cond.eq (.field (.string "HoleDesk$Writer" 114) "java/lang/String" "coder" "B") (.int 0)) (by first | exact List.mem_of_getElem? (i := 81) rfl | decide +kernel))
    (fun i hi => hs (Cond.arrayOf (.field (.string "HoleDesk$Writer" 114) "java/lang/String" "value" "[B") .byte) (by first | exact List.mem_of_getElem? (i := 82) rfl | decide +kernel))
    (fun i hi => by obtain rfl : i = 0 := by omega
                    exact hs (Cond.eq (.length (.field (.string "HoleDesk$Writer" 114) "java/lang/String" "value" "[B")) (.int 1)) (by first | exact List.mem_of_getElem? (i := 83) rfl | decide +kernel))
    (fun i hi j hj => by
      obtain rfl : i = 0 := by omega
      have hj : j < 1 := hj
      rcases (show j = 0 by omega) with rfl
      · exact hs (Cond.eq (.elem (.field (.string "HoleDesk$Writer" 114) "java/lang/String" "value" "[B") (.int 0)) (.int 60)) (by first | exact List.mem_of_getElem? (i := 84) rfl | decide +kernel))
    (fun i j hi hj hij => absurd (show i = j by omega) hij) hA
  obtain ⟨x1, x2, x3, x4⟩ := h1.1 0 (by decide)
  exact ⟨adK 0, vk_R.of (hts _ tref_6) (h2 0 (by decide)), adV 0, x1, x2, x3, x4⟩
theorem text_7 {s : State} {args : Array Value} (hts : ∀ w ∈ lw_tbl, w.before args s = true) (hs : ∀ w ∈ flatC (Jvm.Cond.and given_1 narrow_1), w.before args s = true) : ∃ q : Nat, vk_R "HoleDesk$Writer" 116 "use" q s ∧ txF s.heap.size q 3 (fun j => ([117, 115, 101] : List Int32).getD j 0) s := by
  have hA : ∀ a : Nat, a < s.heap.size → ¬ s.heap.size ≤ a := fun a h => Nat.not_le.mpr h
  obtain ⟨adK, adV, h1, h2⟩ := vk_Sof (args := args) (s := s) (N := 1) (tm := fun _ => (.string "HoleDesk$Writer" 116)) (len := [3]) (byt := [[117, 115, 101]]) (A := fun q => s.heap.size ≤ q)
    (fun i hi => by obtain rfl : i = 0 := by omega
                    decide)
    (fun i hi => hs (Cond.exactly (.string "HoleDesk$Writer" 116) "java/lang/String") (by first | exact List.mem_of_getElem? (i := 91) rfl | decide +kernel))
    (fun i hi => hs (Cond.eq (.field (.string "HoleDesk$Writer" 116) "java/lang/String" "coder" "B") (.int 0)) (by first | exact List.mem_of_getElem? (i := 92) rfl | decide +kernel))
    (fun i hi => hs (Cond.arrayOf (.field (.string "HoleDesk$Writer" 116) "java/lang/String" "value" "[B") .byte) (by first | exact List.mem_of_getElem? (i := 93) rfl | decide +kernel))
    (fun i hi => by obtain rfl : i = 0 := by omega
                    exact hs (Cond.eq (.length (.field (.string "HoleDesk$Writer" 116) "java/lang/String" "value" "[B")) (.int 3)) (by first | exact List.mem_of_getElem? (i := 94) rfl | decide +kernel))
    (fun i hi j hj => by
      obtain rfl : i = 0 := by omega
      have hj : j < 3 := hj
      rcases (show j = 0 ∨ j = 1 ∨ j = 2 by omega) with rfl | rfl | rfl
      · exact hs (Cond.eq (.elem (.field (.string "HoleDesk$Writer" 116) "java/lang/String" "value" "[B") (.int 0)) (.int 117)) (by first | exact List.mem_of_getElem? (i := 95) rfl | decide +kernel)
      · exact hs (Cond.eq (.elem (.field (.string "HoleDesk$Writer" 116) "java/lang/String" "value" "[B") (.int 1)) (.int 115)) (by first | exact List.mem_of_getElem? (i := 96) rfl | decide +kernel)
      · exact hs (Cond.eq (.elem (.field (.string "HoleDesk$Writer" 116) "java/lang/String" "value" "[B") (.int 2)) (.int 101)) (by first | exact List.mem_of_getElem? (i := 97) rfl | decide +kernel))
    (fun i j hi hj hij => absurd (show i = j by omega) hij) hA
  obtain ⟨x1, x2, x3, x4⟩ := h1.1 0 (by decide)
  exact ⟨adK 0, vk_R.of (hts _ tref_7) (h2 0 (by decide)), adV 0, x1, x2, x3, x4⟩
theorem text_8 {s : State} {args : Array Value} (hts : ∀ w ∈ lw_tbl, w.before args s = true) (hs : ∀ w ∈ flatC (Jvm.Cond.and given_1 narrow_1), w.before args s = true) : ∃ q : Nat, vk_R "HoleDesk$Writer" 118 "pick" q s ∧ txF s.heap.size q 4 (fun j => ([112, 105, 99, 107] : List Int32).getD j 0) s := by
  have hA : ∀ a : Nat, a < s.heap.size → ¬ s.heap.size ≤ a := fun a h => Nat.not_le.mpr h
  obtain ⟨adK, adV, h1, h2⟩ := vk_Sof (args := args) (s := s) (N := 1) (tm := fun _ => (.string "HoleDesk$Writer" 118)) (len := [4]) (byt := [[112, 105, 99, 107]]) (A := fun q => s.heap.size ≤ q)
    (fun i hi => by obtain rfl : i = 0 := by omega
                    decide)
    (fun i hi => hs (Cond.exactly (.string "HoleDesk$Writer" 118) "java/lang/String") (by first | exact List.mem_of_getElem? (i := 105) rfl | decide +kernel))
    (fun i hi => hs (Cond.eq (.field (.string "HoleDesk$Writer" 118) "java/lang/String" "coder" "B") (.int 0)) (by first | exact List.mem_of_getElem? (i := 106) rfl | decide +kernel))
    (fun i hi => hs (Cond.arrayOf (.field (.string "HoleDesk$Writer" 118) "java/lang/String" "value" "[B") .byte) (by first | exact List.mem_of_getElem? (i := 107) rfl | decide +kernel))
    (fun i hi => by obtain rfl : i = 0 := by omega
                    exact hs (Cond.eq (.length (.field (.string "HoleDesk$Writer" 118) "java/lang/String" "value" "[B")) (.int 4)) (by first | exact List.mem_of_getElem? (i := 108) rfl | decide +kernel))
    (fun i hi j hj => by
      obtain rfl : i = 0 := by omega
      have hj : j < 4 := hj
      rcases (show j = 0 ∨ j = 1 ∨ j = 2 ∨ j = 3 by omega) with rfl | rfl | rfl | rfl
      · exact hs (Cond.eq (.elem (.field (.string "HoleDesk$Writer" 118) "java/lang/String" "value" "[B") (.int 0)) (.int 112)) (by first | exact List.mem_of_getElem? (i := 109) rfl | decide +kernel)
      · exact hs (Cond.eq (.elem (.field (.string "HoleDesk$Writer" 118) "java/lang/String" "value" "[B") (.int 1)) (.int 105)) (by first | exact List.mem_of_getElem? (i := 110) rfl | decide +kernel)
      · exact hs (Cond.eq (.elem (.field (.string "HoleDesk$Writer" 118) "java/lang/String" "value" "[B") (.int 2)) (.int 99)) (by first | exact List.mem_of_getElem? (i := 111) rfl | decide +kernel)
      · exact hs (Cond.eq (.elem (.field (.string "HoleDesk$Writer" 118) "java/lang/String" "value" "[B") (.int 3)) (.int 107)) (by first | exact List.mem_of_getElem? (i := 112) rfl | decide +kernel))
    (fun i j hi hj hij => absurd (show i = j by omega) hij) hA
  obtain ⟨x1, x2, x3, x4⟩ := h1.1 0 (by decide)
  exact ⟨adK 0, vk_R.of (hts _ tref_8) (h2 0 (by decide)), adV 0, x1, x2, x3, x4⟩
theorem text_9 {s : State} {args : Array Value} (hts : ∀ w ∈ lw_tbl, w.before args s = true) (hs : ∀ w ∈ flatC (Jvm.Cond.and given_1 narrow_1), w.before args s = true) : ∃ q : Nat, vk_R "HoleDesk$Writer" 120 "first" q s ∧ txF s.heap.size q 5 (fun j => ([102, 105, 114, 115, 116] : List Int32).getD j 0) s := by
  have hA : ∀ a : Nat, a < s.heap.size → ¬ s.heap.size ≤ a := fun a h => Nat.not_le.mpr h
  obtain ⟨adK, adV, h1, h2⟩ := vk_Sof (args := args) (s := s) (N := 1) (tm := fun _ => (.string "HoleDesk$Writer" 120)) (len := [5]) (byt := [[102, 105, 114, 115, 116]]) (A := fun q => s.heap.size ≤ q)
    (fun i hi => by obtain rfl : i = 0 := by omega
                    decide)
    (fun i hi => hs (Cond.exactly (.string "HoleDesk$Writer" 120) "java/lang/String") (by first | exact List.mem_of_getElem? (i := 121) rfl | decide +kernel))
    (fun i hi => hs (Cond.eq (.field (.string "HoleDesk$Writer" 120) "java/lang/String" "coder" "B") (.int 0)) (by first | exact List.mem_of_getElem? (i := 122) rfl | decide +kernel))
    (fun i hi => hs (Cond.arrayOf (.field (.string "HoleDesk$Writer" 120) "java/lang/String" "value" "[B") .byte) (by first | exact List.mem_of_getElem? (i := 123) rfl | decide +kernel))
    (fun i hi => by obtain rfl : i = 0 := by omega
                    exact hs (Cond.eq (.length (.field (.string "HoleDesk$Writer" 120) "java/lang/String" "value" "[B")) (.int 5)) (by first | exact List.mem_of_getElem? (i := 124) rfl | decide +kernel))
    (fun i hi j hj => by
      obtain rfl : i = 0 := by omega
      have hj : j < 5 := hj
      rcases (show j = 0 ∨ j = 1 ∨ j = 2 ∨ j = 3 ∨ j = 4 by omega) with rfl | rfl | rfl | rfl | rfl
      · exact hs (Cond.eq (.elem (.field (.string "HoleDesk$Writer" 120) "java/lang/String" "value" "[B") (.int 0)) (.int 102)) (by first | exact List.mem_of_getElem? (i := 125) rfl | decide +kernel)
      · exact hs (Cond.eq (.elem (.field (.string "HoleDesk$Writer" 120) "java/lang/String" "value" "[B") (.int 1)) (.int 105)) (by first | exact List.mem_of_getElem? (i := 126) rfl | decide +kernel)
      · exact hs (Cond.eq (.elem (.field (.string "HoleDesk$Writer" 120) "java/lang/String" "value" "[B") (.int 2)) (.int 114)) (by first | exact List.mem_of_getElem? (i := 127) rfl | decide +kernel)
      · exact hs (Cond.eq (.elem (.field (.string "HoleDesk$Writer" 120) "java/lang/String" "value" "[B") (.int 3)) (.int 115)) (by first | exact List.mem_of_getElem? (i := 128) rfl | decide +kernel)
      · exact hs (Cond.eq (.elem (.field (.string "HoleDesk$Writer" 120) "java/lang/String" "value" "[B") (.int 4)) (.int 116)) (by first | exact List.mem_of_getElem? (i := 129) rfl | decide +kernel))
    (fun i j hi hj hij => absurd (show i = j by omega) hij) hA
  obtain ⟨x1, x2, x3, x4⟩ := h1.1 0 (by decide)
  exact ⟨adK 0, vk_R.of (hts _ tref_9) (h2 0 (by decide)), adV 0, x1, x2, x3, x4⟩
theorem text_10 {s : State} {args : Array Value} (hts : ∀ w ∈ lw_tbl, w.before args s = true) (hs : ∀ w ∈ flatC (Jvm.Cond.and given_1 narrow_1), w.before args s = true) : ∃ q : Nat, vk_R "HoleDesk$Writer" 122 "second" q s ∧ txF s.heap.size q 6 (fun j => ([115, 101, 99, 111, 110, 100] : List Int32).getD j 0) s := by
  have hA : ∀ a : Nat, a < s.heap.size → ¬ s.heap.size ≤ a := fun a h => Nat.not_le.mpr h
  obtain ⟨adK, adV, h1, h2⟩ := vk_Sof (args := args) (s := s) (N := 1) (tm := fun _ => (.string "HoleDesk$Writer" 122)) (len := [6]) (byt := [[115, 101, 99, 111, 110, 100]]) (A := fun q => s.heap.size ≤ q)
    (fun i hi => by obtain rfl : i = 0 := by omega
                    decide)
    (fun i hi => hs (Cond.exactly (.string "HoleDesk$Writer" 122) "java/lang/String") (by first | exact List.mem_of_getElem? (i := 139) rfl | decide +kernel))
    (fun i hi => hs (Cond.eq (.field (.string "HoleDesk$Writer" 122) "java/lang/String" "coder" "B") (.int 0)) (by first | exact List.mem_of_getElem? (i := 140) rfl | decide +kernel))
    (fun i hi => hs (Cond.arrayOf (.field (.string "HoleDesk$Writer" 122) "java/lang/String" "value" "[B") .byte) (by first | exact List.mem_of_getElem? (i := 141) rfl | decide +kernel))
    (fun i hi => by obtain rfl : i = 0 := by omega
                    exact hs (Cond.eq (.length (.field (.string "HoleDesk$Writer" 122) "java/lang/String" "value" "[B")) (.int 6)) (by first | exact List.mem_of_getElem? (i := 142) rfl | decide +kernel))
    (fun i hi j hj => by
      obtain rfl : i = 0 := by omega
      have hj : j < 6 := hj
      rcases (show j = 0 ∨ j = 1 ∨ j = 2 ∨ j = 3 ∨ j = 4 ∨ j = 5 by omega) with rfl | rfl | rfl | rfl | rfl | rfl
      · exact hs (Cond.eq (.elem (.field (.string "HoleDesk$Writer" 122) "java/lang/String" "value" "[B") (.int 0)) (.int 115)) (by first | exact List.mem_of_getElem? (i := 143) rfl | decide +kernel)
      · exact hs (Cond.eq (.elem (.field (.string "HoleDesk$Writer" 122) "java/lang/String" "value" "[B") (.int 1)) (.int 101)) (by first | exact List.mem_of_getElem? (i := 144) rfl | decide +kernel)
      · exact hs (Cond.eq (.elem (.field (.string "HoleDesk$Writer" 122) "java/lang/String" "value" "[B") (.int 2)) (.int 99)) (by first | exact List.mem_of_getElem? (i := 145) rfl | decide +kernel)
      · exact hs (Cond.eq (.elem (.field (.string "HoleDesk$Writer" 122) "java/lang/String" "value" "[B") (.int 3)) (.int 111)) (by first | exact List.mem_of_getElem? (i := 146) rfl | decide +kernel)
      · exact hs (Cond.eq (.elem (.field (.string "HoleDesk$Writer" 122) "java/lang/String" "value" "[B") (.int 4)) (.int 110)) (by first | exact List.mem_of_getElem? (i := 147) rfl | decide +kernel)
      · exact hs (Cond.eq (.elem (.field (.string "HoleDesk$Writer" 122) "java/lang/String" "value" "[B") (.int 5)) (.int 100)) (by first | exact List.mem_of_getElem? (i := 148) rfl | decide +kernel))
    (fun i j hi hj hij => absurd (show i = j by omega) hij) hA
  obtain ⟨x1, x2, x3, x4⟩ := h1.1 0 (by decide)
  exact ⟨adK 0, vk_R.of (hts _ tref_10) (h2 0 (by decide)), adV 0, x1, x2, x3, x4⟩
theorem text_11 {s : State} {args : Array Value} (hts : ∀ w ∈ lw_tbl, w.before args s = true) (hs : ∀ w ∈ flatC (Jvm.Cond.and given_1 narrow_1), w.before args s = true) : ∃ q : Nat, vk_R "HoleDeskModel" 439 "yes" q s ∧ txF s.heap.size q 3 (fun j => ([121, 101, 115] : List Int32).getD j 0) s := by
  have hA : ∀ a : Nat, a < s.heap.size → ¬ s.heap.size ≤ a := fun a h => Nat.not_le.mpr h
  obtain ⟨adK, adV, h1, h2⟩ := vk_Sof (args := args) (s := s) (N := 1) (tm := fun _ => (.string "HoleDeskModel" 439)) (len := [3]) (byt := [[121, 101, 115]]) (A := fun q => s.heap.size ≤ q)
    (fun i hi => by obtain rfl : i = 0 := by omega
                    decide)
    (fun i hi => hs (Cond.exactly (.string "HoleDeskModel" 439) "java/lang/String") (by first | exact List.mem_of_getElem? (i := 159) rfl | decide +kernel))
    (fun i hi => hs (Cond.eq (.field (.string "HoleDeskModel" 439) "java/lang/String" "coder" "B") (.int 0)) (by first | exact List.mem_of_getElem? (i := 160) rfl | decide +kernel))
    (fun i hi => hs (Cond.arrayOf (.field (.string "HoleDeskModel" 439) "java/lang/String" "value" "[B") .byte) (by first | exact List.mem_of_getElem? (i := 161) rfl | decide +kernel))
    (fun i hi => by obtain rfl : i = 0 := by omega
                    exact hs (Cond.eq (.length (.field (.string "HoleDeskModel" 439) "java/lang/String" "value" "[B")) (.int 3)) (by first | exact List.mem_of_getElem? (i := 162) rfl | decide +kernel))
    (fun i hi j hj => by
      obtain rfl : i = 0 := by omega
      have hj : j < 3 := hj
      rcases (show j = 0 ∨ j = 1 ∨ j = 2 by omega) with rfl | rfl | rfl
      · exact hs (Cond.eq (.elem (.field (.string "HoleDeskModel" 439) "java/lang/String" "value" "[B") (.int 0)) (.int 121)) (by first | exact List.mem_of_getElem? (i := 163) rfl | decide +kernel)
      · exact hs (Cond.eq (.elem (.field (.string "HoleDeskModel" 439) "java/lang/String" "value" "[B") (.int 1)) (.int 101)) (by first | exact List.mem_of_getElem? (i := 164) rfl | decide +kernel)
      · exact hs (Cond.eq (.elem (.field (.string "HoleDeskModel" 439) "java/lang/String" "value" "[B") (.int 2)) (.int 115)) (by first | exact List.mem_of_getElem? (i := 165) rfl | decide +kernel))
    (fun i j hi hj hij => absurd (show i = j by omega) hij) hA
  obtain ⟨x1, x2, x3, x4⟩ := h1.1 0 (by decide)
  exact ⟨adK 0, vk_R.of (hts _ tref_11) (h2 0 (by decide)), adV 0, x1, x2, x3, x4⟩
theorem text_12 {s : State} {args : Array Value} (hts : ∀ w ∈ lw_tbl, w.before args s = true) (hs : ∀ w ∈ flatC (Jvm.Cond.and given_1 narrow_1), w.before args s = true) : ∃ q : Nat, vk_R "HoleDeskModel" 441 "no" q s ∧ txF s.heap.size q 2 (fun j => ([110, 111] : List Int32).getD j 0) s := by
  have hA : ∀ a : Nat, a < s.heap.size → ¬ s.heap.size ≤ a := fun a h => Nat.not_le.mpr h
  obtain ⟨adK, adV, h1, h2⟩ := vk_Sof (args := args) (s := s) (N := 1) (tm := fun _ => (.string "HoleDeskModel" 441)) (len := [2]) (byt := [[110, 111]]) (A := fun q => s.heap.size ≤ q)
    (fun i hi => by obtain rfl : i = 0 := by omega
                    decide)
    (fun i hi => hs (Cond.exactly (.string "HoleDeskModel" 441) "java/lang/String") (by first | exact List.mem_of_getElem? (i := 177) rfl | decide +kernel))
    (fun i hi => hs (Cond.eq (.field (.string "HoleDeskModel" 441) "java/lang/String" "coder" "B") (.int 0)) (by first | exact List.mem_of_getElem? (i := 178) rfl | decide +kernel))
    (fun i hi => hs (Cond.arrayOf (.field (.string "HoleDeskModel" 441) "java/lang/String" "value" "[B") .byte) (by first | exact List.mem_of_getElem? (i := 179) rfl | decide +kernel))
    (fun i hi => by obtain rfl : i = 0 := by omega
                    exact hs (Cond.eq (.length (.field (.string "HoleDeskModel" 441) "java/lang/String" "value" "[B")) (.int 2)) (by first | exact List.mem_of_getElem? (i := 180) rfl | decide +kernel))
    (fun i hi j hj => by
      obtain rfl : i = 0 := by omega
      have hj : j < 2 := hj
      rcases (show j = 0 ∨ j = 1 by omega) with rfl | rfl
      · exact hs (Cond.eq (.elem (.field (.string "HoleDeskModel" 441) "java/lang/String" "value" "[B") (.int 0)) (.int 110)) (by first | exact List.mem_of_getElem? (i := 181) rfl | decide +kernel)
      · exact hs (Cond.eq (.elem (.field (.string "HoleDeskModel" 441) "java/lang/String" "value" "[B") (.int 1)) (.int 111)) (by first | exact List.mem_of_getElem? (i := 182) rfl | decide +kernel))
    (fun i j hi hj hij => absurd (show i = j by omega) hij) hA
  obtain ⟨x1, x2, x3, x4⟩ := h1.1 0 (by decide)
  exact ⟨adK 0, vk_R.of (hts _ tref_12) (h2 0 (by decide)), adV 0, x1, x2, x3, x4⟩
theorem text_13 {s : State} {args : Array Value} (hts : ∀ w ∈ lw_tbl, w.before args s = true) (hs : ∀ w ∈ flatC (Jvm.Cond.and given_1 narrow_1), w.before args s = true) : ∃ q : Nat, vk_R "HoleDeskModel" 420 "+" q s ∧ txF s.heap.size q 1 (fun j => ([43] : List Int32).getD j 0) s := by
  have hA : ∀ a : Nat, a < s.heap.size → ¬ s.heap.size ≤ a := fun a h => Nat.not_le.mpr h
  obtain ⟨adK, adV, h1, h2⟩ := vk_Sof (args := args) (s := s) (N := 1) (tm := fun _ => (.string "HoleDeskModel" 420)) (len := [1]) (byt := [[43]]) (A := fun q => s.heap.size ≤ q)
    (fun i hi => by obtain rfl : i = 0 := by omega
                    decide)
    (fun i hi => hs (Cond.exactly (.string "HoleDeskModel" 420) "java/lang/String") (by first | exact List.mem_of_getElem? (i := 195) rfl | decide +kernel))
    (fun i hi => hs (Cond.eq (.field (.string "HoleDeskModel" 420) "java/lang/String" "coder" "B") (.int 0)) (by first | exact List.mem_of_getElem? (i := 196) rfl | decide +kernel))
    (fun i hi => hs (Cond.arrayOf (.field (.string "HoleDeskModel" 420) "java/lang/String" "value" "[B") .byte) (by first | exact List.mem_of_getElem? (i := 197) rfl | decide +kernel))
    (fun i hi => by obtain rfl : i = 0 := by omega
                    exact hs (Cond.eq (.length (.field (.string "HoleDeskModel" 420) "java/lang/String" "value" "[B")) (.int 1)) (by first | exact List.mem_of_getElem? (i := 198) rfl | decide +kernel))
    (fun i hi j hj => by
      obtain rfl : i = 0 := by omega
      have hj : j < 1 := hj
      rcases (show j = 0 by omega) with rfl
      · exact hs (Cond.eq (.elem (.field (.string "HoleDeskModel" 420) "java/lang/String" "value" "[B") (.int 0)) (.int 43)) (by first | exact List.mem_of_getElem? (i := 199) rfl | decide +kernel))
    (fun i j hi hj hij => absurd (show i = j by omega) hij) hA
  obtain ⟨x1, x2, x3, x4⟩ := h1.1 0 (by decide)
  exact ⟨adK 0, vk_R.of (hts _ tref_13) (h2 0 (by decide)), adV 0, x1, x2, x3, x4⟩
theorem text_14 {s : State} {args : Array Value} (hts : ∀ w ∈ lw_tbl, w.before args s = true) (hs : ∀ w ∈ flatC (Jvm.Cond.and given_1 narrow_1), w.before args s = true) : ∃ q : Nat, vk_R "HoleDeskModel" 422 "*" q s ∧ txF s.heap.size q 1 (fun j => ([42] : List Int32).getD j 0) s := by
  have hA : ∀ a : Nat, a < s.heap.size → ¬ s.heap.size ≤ a := fun a h => Nat.not_le.mpr h
  obtain ⟨adK, adV, h1, h2⟩ := vk_Sof (args := args) (s := s) (N := 1) (tm := fun _ => (.string "HoleDeskModel" 422)) (len := [1]) (byt := [[42]]) (A := fun q => s.heap.size ≤ q)
    (fun i hi => by obtain rfl : i = 0 := by omega
                    decide)
    (fun i hi => hs (Cond.exactly (.string "HoleDeskModel" 422) "java/lang/String") (by first | exact List.mem_of_getElem? (i := 213) rfl | decide +kernel))
    (fun i hi => hs (Cond.eq (.field (.string "HoleDeskModel" 422) "java/lang/String" "coder" "B") (.int 0)) (by first | exact List.mem_of_getElem? (i := 214) rfl | decide +kernel))
    (fun i hi => hs (Cond.arrayOf (.field (.string "HoleDeskModel" 422) "java/lang/String" "value" "[B") .byte) (by first | exact List.mem_of_getElem? (i := 215) rfl | decide +kernel))
    (fun i hi => by obtain rfl : i = 0 := by omega
                    exact hs (Cond.eq (.length (.field (.string "HoleDeskModel" 422) "java/lang/String" "value" "[B")) (.int 1)) (by first | exact List.mem_of_getElem? (i := 216) rfl | decide +kernel))
    (fun i hi j hj => by
      obtain rfl : i = 0 := by omega
      have hj : j < 1 := hj
      rcases (show j = 0 by omega) with rfl
      · exact hs (Cond.eq (.elem (.field (.string "HoleDeskModel" 422) "java/lang/String" "value" "[B") (.int 0)) (.int 42)) (by first | exact List.mem_of_getElem? (i := 217) rfl | decide +kernel))
    (fun i j hi hj hij => absurd (show i = j by omega) hij) hA
  obtain ⟨x1, x2, x3, x4⟩ := h1.1 0 (by decide)
  exact ⟨adK 0, vk_R.of (hts _ tref_14) (h2 0 (by decide)), adV 0, x1, x2, x3, x4⟩
theorem text_15 {s : State} {args : Array Value} (hts : ∀ w ∈ lw_tbl, w.before args s = true) (hs : ∀ w ∈ flatC (Jvm.Cond.and given_1 narrow_1), w.before args s = true) : ∃ q : Nat, vk_R "HoleDeskModel" 424 "/" q s ∧ txF s.heap.size q 1 (fun j => ([47] : List Int32).getD j 0) s := by
  have hA : ∀ a : Nat, a < s.heap.size → ¬ s.heap.size ≤ a := fun a h => Nat.not_le.mpr h
  obtain ⟨adK, adV, h1, h2⟩ := vk_Sof (args := args) (s := s) (N := 1) (tm := fun _ => (.string "HoleDeskModel" 424)) (len := [1]) (byt := [[47]]) (A := fun q => s.heap.size ≤ q)
    (fun i hi => by obtain rfl : i = 0 := by omega
                    decide)
    (fun i hi => hs (Cond.exactly (.string "HoleDeskModel" 424) "java/lang/String") (by first | exact List.mem_of_getElem? (i := 232) rfl | decide +kernel))
    (fun i hi => hs (Cond.eq (.field (.string "HoleDeskModel" 424) "java/lang/String" "coder" "B") (.int 0)) (by first | exact List.mem_of_getElem? (i := 233) rfl | decide +kernel))
    (fun i hi => hs (Cond.arrayOf (.field (.string "HoleDeskModel" 424) "java/lang/String" "value" "[B") .byte) (by first | exact List.mem_of_getElem? (i := 234) rfl | decide +kernel))
    (fun i hi => by obtain rfl : i = 0 := by omega
                    exact hs (Cond.eq (.length (.field (.string "HoleDeskModel" 424) "java/lang/String" "value" "[B")) (.int 1)) (by first | exact List.mem_of_getElem? (i := 235) rfl | decide +kernel))
    (fun i hi j hj => by
      obtain rfl : i = 0 := by omega
      have hj : j < 1 := hj
      rcases (show j = 0 by omega) with rfl
      · exact hs (Cond.eq (.elem (.field (.string "HoleDeskModel" 424) "java/lang/String" "value" "[B") (.int 0)) (.int 47)) (by first | exact List.mem_of_getElem? (i := 236) rfl | decide +kernel))
    (fun i j hi hj hij => absurd (show i = j by omega) hij) hA
  obtain ⟨x1, x2, x3, x4⟩ := h1.1 0 (by decide)
  exact ⟨adK 0, vk_R.of (hts _ tref_15) (h2 0 (by decide)), adV 0, x1, x2, x3, x4⟩
theorem text_16 {s : State} {args : Array Value} (hts : ∀ w ∈ lw_tbl, w.before args s = true) (hs : ∀ w ∈ flatC (Jvm.Cond.and given_1 narrow_1), w.before args s = true) : ∃ q : Nat, vk_R "HoleDeskModel" 426 "<" q s ∧ txF s.heap.size q 1 (fun j => ([60] : List Int32).getD j 0) s := by
  have hA : ∀ a : Nat, a < s.heap.size → ¬ s.heap.size ≤ a := fun a h => Nat.not_le.mpr h
  obtain ⟨adK, adV, h1, h2⟩ := vk_Sof (args := args) (s := s) (N := 1) (tm := fun _ => (.string "HoleDeskModel" 426)) (len := [1]) (byt := [[60]]) (A := fun q => s.heap.size ≤ q)
    (fun i hi => by obtain rfl : i = 0 := by omega
                    decide)
    (fun i hi => hs (Cond.exactly (.string "HoleDeskModel" 426) "java/lang/String") (by first | exact List.mem_of_getElem? (i := 252) rfl | decide +kernel))
    (fun i hi => hs (Cond.eq (.field (.string "HoleDeskModel" 426) "java/lang/String" "coder" "B") (.int 0)) (by first | exact List.mem_of_getElem? (i := 253) rfl | decide +kernel))
    (fun i hi => hs (Cond.arrayOf (.field (.string "HoleDeskModel" 426) "java/lang/String" "value" "[B") .byte) (by first | exact List.mem_of_getElem? (i := 254) rfl | decide +kernel))
    (fun i hi => by obtain rfl : i = 0 := by omega
                    exact hs (Cond.eq (.length (.field (.string "HoleDeskModel" 426) "java/lang/String" "value" "[B")) (.int 1)) (by first | exact List.mem_of_getElem? (i := 255) rfl | decide +kernel))
    (fun i hi j hj => by
      obtain rfl : i = 0 := by omega
      have hj : j < 1 := hj
      rcases (show j = 0 by omega) with rfl
      · exact hs (Cond.eq (.elem (.field (.string "HoleDeskModel" 426) "java/lang/String" "value" "[B") (.int 0)) (.int 60)) (by first | exact List.mem_of_getElem? (i := 256) rfl | decide +kernel))
    (fun i j hi hj hij => absurd (show i = j by omega) hij) hA
  obtain ⟨x1, x2, x3, x4⟩ := h1.1 0 (by decide)
  exact ⟨adK 0, vk_R.of (hts _ tref_16) (h2 0 (by decide)), adV 0, x1, x2, x3, x4⟩
theorem text_17 {s : State} {args : Array Value} (hts : ∀ w ∈ lw_tbl, w.before args s = true) (hs : ∀ w ∈ flatC (Jvm.Cond.and given_1 narrow_1), w.before args s = true) : ∃ q : Nat, vk_R "HoleDeskModel" 428 "use" q s ∧ txF s.heap.size q 3 (fun j => ([117, 115, 101] : List Int32).getD j 0) s := by
  have hA : ∀ a : Nat, a < s.heap.size → ¬ s.heap.size ≤ a := fun a h => Nat.not_le.mpr h
  obtain ⟨adK, adV, h1, h2⟩ := vk_Sof (args := args) (s := s) (N := 1) (tm := fun _ => (.string "HoleDeskModel" 428)) (len := [3]) (byt := [[117, 115, 101]]) (A := fun q => s.heap.size ≤ q)
    (fun i hi => by obtain rfl : i = 0 := by omega
                    decide)
    (fun i hi => hs (Cond.exactly (.string "HoleDeskModel" 428) "java/lang/String") (by first | exact List.mem_of_getElem? (i := 273) rfl | decide +kernel))
    (fun i hi => hs (Cond.eq (.field (.string "HoleDeskModel" 428) "java/lang/String" "coder" "B") (.int 0)) (by first | exact List.mem_of_getElem? (i := 274) rfl | decide +kernel))
    (fun i hi => hs (Cond.arrayOf (.field (.string "HoleDeskModel" 428) "java/lang/String" "value" "[B") .byte) (by first | exact List.mem_of_getElem? (i := 275) rfl | decide +kernel))
    (fun i hi => by obtain rfl : i = 0 := by omega
                    exact hs (Cond.eq (.length (.field (.string "HoleDeskModel" 428) "java/lang/String" "value" "[B")) (.int 3)) (by first | exact List.mem_of_getElem? (i := 276) rfl | decide +kernel))
    (fun i hi j hj => by
      obtain rfl : i = 0 := by omega
      have hj : j < 3 := hj
      rcases (show j = 0 ∨ j = 1 ∨ j = 2 by omega) with rfl | rfl | rfl
      · exact hs (Cond.eq (.elem (.field (.string "HoleDeskModel" 428) "java/lang/String" "value" "[B") (.int 0)) (.int 117)) (by first | exact List.mem_of_getElem? (i := 277) rfl | decide +kernel)
      · exact hs (Cond.eq (.elem (.field (.string "HoleDeskModel" 428) "java/lang/String" "value" "[B") (.int 1)) (.int 115)) (by first | exact List.mem_of_getElem? (i := 278) rfl | decide +kernel)
      · exact hs (Cond.eq (.elem (.field (.string "HoleDeskModel" 428) "java/lang/String" "value" "[B") (.int 2)) (.int 101)) (by first | exact List.mem_of_getElem? (i := 279) rfl | decide +kernel))
    (fun i j hi hj hij => absurd (show i = j by omega) hij) hA
  obtain ⟨x1, x2, x3, x4⟩ := h1.1 0 (by decide)
  exact ⟨adK 0, vk_R.of (hts _ tref_17) (h2 0 (by decide)), adV 0, x1, x2, x3, x4⟩
theorem text_18 {s : State} {args : Array Value} (hts : ∀ w ∈ lw_tbl, w.before args s = true) (hs : ∀ w ∈ flatC (Jvm.Cond.and given_1 narrow_1), w.before args s = true) : ∃ q : Nat, vk_R "HoleDeskModel" 430 "pick" q s ∧ txF s.heap.size q 4 (fun j => ([112, 105, 99, 107] : List Int32).getD j 0) s := by
  have hA : ∀ a : Nat, a < s.heap.size → ¬ s.heap.size ≤ a := fun a h => Nat.not_le.mpr h
  obtain ⟨adK, adV, h1, h2⟩ := vk_Sof (args := args) (s := s) (N := 1) (tm := fun _ => (.string "HoleDeskModel" 430)) (len := [4]) (byt := [[112, 105, 99, 107]]) (A := fun q => s.heap.size ≤ q)
    (fun i hi => by obtain rfl : i = 0 := by omega
                    decide)
    (fun i hi => hs (Cond.exactly (.string "HoleDeskModel" 430) "java/lang/String") (by first | exact List.mem_of_getElem? (i := 297) rfl | decide +kernel))
    (fun i hi => hs (Cond.eq (.field (.string "HoleDeskModel" 430) "java/lang/String" "coder" "B") (.int 0)) (by first | exact List.mem_of_getElem? (i := 298) rfl | decide +kernel))
    (fun i hi => hs (Cond.arrayOf (.field (.string "HoleDeskModel" 430) "java/lang/String" "value" "[B") .byte) (by first | exact List.mem_of_getElem? (i := 299) rfl | decide +kernel))
    (fun i hi => by obtain rfl : i = 0 := by omega
                    exact hs (Cond.eq (.length (.field (.string "HoleDeskModel" 430) "java/lang/String" "value" "[B")) (.int 4)) (by first | exact List.mem_of_getElem? (i := 300) rfl | decide +kernel))
    (fun i hi j hj => by
      obtain rfl : i = 0 := by omega
      have hj : j < 4 := hj
      rcases (show j = 0 ∨ j = 1 ∨ j = 2 ∨ j = 3 by omega) with rfl | rfl | rfl | rfl
      · exact hs (Cond.eq (.elem (.field (.string "HoleDeskModel" 430) "java/lang/String" "value" "[B") (.int 0)) (.int 112)) (by first | exact List.mem_of_getElem? (i := 301) rfl | decide +kernel)
      · exact hs (Cond.eq (.elem (.field (.string "HoleDeskModel" 430) "java/lang/String" "value" "[B") (.int 1)) (.int 105)) (by first | exact List.mem_of_getElem? (i := 302) rfl | decide +kernel)
      · exact hs (Cond.eq (.elem (.field (.string "HoleDeskModel" 430) "java/lang/String" "value" "[B") (.int 2)) (.int 99)) (by first | exact List.mem_of_getElem? (i := 303) rfl | decide +kernel)
      · exact hs (Cond.eq (.elem (.field (.string "HoleDeskModel" 430) "java/lang/String" "value" "[B") (.int 3)) (.int 107)) (by first | exact List.mem_of_getElem? (i := 304) rfl | decide +kernel))
    (fun i j hi hj hij => absurd (show i = j by omega) hij) hA
  obtain ⟨x1, x2, x3, x4⟩ := h1.1 0 (by decide)
  exact ⟨adK 0, vk_R.of (hts _ tref_18) (h2 0 (by decide)), adV 0, x1, x2, x3, x4⟩
theorem text_19 {s : State} {args : Array Value} (hts : ∀ w ∈ lw_tbl, w.before args s = true) (hs : ∀ w ∈ flatC (Jvm.Cond.and given_1 narrow_1), w.before args s = true) : ∃ q : Nat, vk_R "HoleDeskModel" 432 "first" q s ∧ txF s.heap.size q 5 (fun j => ([102, 105, 114, 115, 116] : List Int32).getD j 0) s := by
  have hA : ∀ a : Nat, a < s.heap.size → ¬ s.heap.size ≤ a := fun a h => Nat.not_le.mpr h
  obtain ⟨adK, adV, h1, h2⟩ := vk_Sof (args := args) (s := s) (N := 1) (tm := fun _ => (.string "HoleDeskModel" 432)) (len := [5]) (byt := [[102, 105, 114, 115, 116]]) (A := fun q => s.heap.size ≤ q)
    (fun i hi => by obtain rfl : i = 0 := by omega
                    decide)
    (fun i hi => hs (Cond.exactly (.string "HoleDeskModel" 432) "java/lang/String") (by first | exact List.mem_of_getElem? (i := 323) rfl | decide +kernel))
    (fun i hi => hs (Cond.eq (.field (.string "HoleDeskModel" 432) "java/lang/String" "coder" "B") (.int 0)) (by first | exact List.mem_of_getElem? (i := 324) rfl | decide +kernel))
    (fun i hi => hs (Cond.arrayOf (.field (.string "HoleDeskModel" 432) "java/lang/String" "value" "[B") .byte) (by first | exact List.mem_of_getElem? (i := 325) rfl | decide +kernel))
    (fun i hi => by obtain rfl : i = 0 := by omega
                    exact hs (Cond.eq (.length (.field (.string "HoleDeskModel" 432) "java/lang/String" "value" "[B")) (.int 5)) (by first | exact List.mem_of_getElem? (i := 326) rfl | decide +kernel))
    (fun i hi j hj => by
      obtain rfl : i = 0 := by omega
      have hj : j < 5 := hj
      rcases (show j = 0 ∨ j = 1 ∨ j = 2 ∨ j = 3 ∨ j = 4 by omega) with rfl | rfl | rfl | rfl | rfl
      · exact hs (Cond.eq (.elem (.field (.string "HoleDeskModel" 432) "java/lang/String" "value" "[B") (.int 0)) (.int 102)) (by first | exact List.mem_of_getElem? (i := 327) rfl | decide +kernel)
      · exact hs (Cond.eq (.elem (.field (.string "HoleDeskModel" 432) "java/lang/String" "value" "[B") (.int 1)) (.int 105)) (by first | exact List.mem_of_getElem? (i := 328) rfl | decide +kernel)
      · exact hs (Cond.eq (.elem (.field (.string "HoleDeskModel" 432) "java/lang/String" "value" "[B") (.int 2)) (.int 114)) (by first | exact List.mem_of_getElem? (i := 329) rfl | decide +kernel)
      · exact hs (Cond.eq (.elem (.field (.string "HoleDeskModel" 432) "java/lang/String" "value" "[B") (.int 3)) (.int 115)) (by first | exact List.mem_of_getElem? (i := 330) rfl | decide +kernel)
      · exact hs (Cond.eq (.elem (.field (.string "HoleDeskModel" 432) "java/lang/String" "value" "[B") (.int 4)) (.int 116)) (by first | exact List.mem_of_getElem? (i := 331) rfl | decide +kernel))
    (fun i j hi hj hij => absurd (show i = j by omega) hij) hA
  obtain ⟨x1, x2, x3, x4⟩ := h1.1 0 (by decide)
  exact ⟨adK 0, vk_R.of (hts _ tref_19) (h2 0 (by decide)), adV 0, x1, x2, x3, x4⟩
theorem text_20 {s : State} {args : Array Value} (hts : ∀ w ∈ lw_tbl, w.before args s = true) (hs : ∀ w ∈ flatC (Jvm.Cond.and given_1 narrow_1), w.before args s = true) : ∃ q : Nat, vk_R "HoleDeskModel" 434 "second" q s ∧ txF s.heap.size q 6 (fun j => ([115, 101, 99, 111, 110, 100] : List Int32).getD j 0) s := by
  have hA : ∀ a : Nat, a < s.heap.size → ¬ s.heap.size ≤ a := fun a h => Nat.not_le.mpr h
  obtain ⟨adK, adV, h1, h2⟩ := vk_Sof (args := args) (s := s) (N := 1) (tm := fun _ => (.string "HoleDeskModel" 434)) (len := [6]) (byt := [[115, 101, 99, 111, 110, 100]]) (A := fun q => s.heap.size ≤ q)
    (fun i hi => by obtain rfl : i = 0 := by omega
                    decide)
    (fun i hi => hs (Cond.exactly (.string "HoleDeskModel" 434) "java/lang/String") (by first | exact List.mem_of_getElem? (i := 351) rfl | decide +kernel))
    (fun i hi => hs (Cond.eq (.field (.string "HoleDeskModel" 434) "java/lang/String" "coder" "B") (.int 0)) (by first | exact List.mem_of_getElem? (i := 352) rfl | decide +kernel))
    (fun i hi => hs (Cond.arrayOf (.field (.string "HoleDeskModel" 434) "java/lang/String" "value" "[B") .byte) (by first | exact List.mem_of_getElem? (i := 353) rfl | decide +kernel))
    (fun i hi => by obtain rfl : i = 0 := by omega
                    exact hs (Cond.eq (.length (.field (.string "HoleDeskModel" 434) "java/lang/String" "value" "[B")) (.int 6)) (by first | exact List.mem_of_getElem? (i := 354) rfl | decide +kernel))
    (fun i hi j hj => by
      obtain rfl : i = 0 := by omega
      have hj : j < 6 := hj
      rcases (show j = 0 ∨ j = 1 ∨ j = 2 ∨ j = 3 ∨ j = 4 ∨ j = 5 by omega) with rfl | rfl | rfl | rfl | rfl | rfl
      · exact hs (Cond.eq (.elem (.field (.string "HoleDeskModel" 434) "java/lang/String" "value" "[B") (.int 0)) (.int 115)) (by first | exact List.mem_of_getElem? (i := 355) rfl | decide +kernel)
      · exact hs (Cond.eq (.elem (.field (.string "HoleDeskModel" 434) "java/lang/String" "value" "[B") (.int 1)) (.int 101)) (by first | exact List.mem_of_getElem? (i := 356) rfl | decide +kernel)
      · exact hs (Cond.eq (.elem (.field (.string "HoleDeskModel" 434) "java/lang/String" "value" "[B") (.int 2)) (.int 99)) (by first | exact List.mem_of_getElem? (i := 357) rfl | decide +kernel)
      · exact hs (Cond.eq (.elem (.field (.string "HoleDeskModel" 434) "java/lang/String" "value" "[B") (.int 3)) (.int 111)) (by first | exact List.mem_of_getElem? (i := 358) rfl | decide +kernel)
      · exact hs (Cond.eq (.elem (.field (.string "HoleDeskModel" 434) "java/lang/String" "value" "[B") (.int 4)) (.int 110)) (by first | exact List.mem_of_getElem? (i := 359) rfl | decide +kernel)
      · exact hs (Cond.eq (.elem (.field (.string "HoleDeskModel" 434) "java/lang/String" "value" "[B") (.int 5)) (.int 100)) (by first | exact List.mem_of_getElem? (i := 360) rfl | decide +kernel))
    (fun i j hi hj hij => absurd (show i = j by omega) hij) hA
  obtain ⟨x1, x2, x3, x4⟩ := h1.1 0 (by decide)
  exact ⟨adK 0, vk_R.of (hts _ tref_20) (h2 0 (by decide)), adV 0, x1, x2, x3, x4⟩
def SN0 : List (String × Nat × String) := [("HoleDesk$Kinds", 50, "?wtfp"), ("HoleDesk$Writer", 74, "yes"), ("HoleDesk$Writer", 76, "no"), ("HoleDesk$Writer", 108, "+"), ("HoleDesk$Writer", 110, "*"), ("HoleDesk$Writer", 112, "/"), ("HoleDesk$Writer", 114, "<"), ("HoleDesk$Writer", 116, "use"), ("HoleDesk$Writer", 118, "pick"), ("HoleDesk$Writer", 120, "first"), ("HoleDesk$Writer", 122, "second"), ("HoleDeskModel", 439, "yes"), ("HoleDeskModel", 441, "no"), ("HoleDeskModel", 420, "+"), ("HoleDeskModel", 422, "*"), ("HoleDeskModel", 424, "/"), ("HoleDeskModel", 426, "<"), ("HoleDeskModel", 428, "use"), ("HoleDeskModel", 430, "pick"), ("HoleDeskModel", 432, "first"), ("HoleDeskModel", 434, "second")]
theorem texts_of {s : State} {args : Array Value} (hts : ∀ w ∈ lw_tbl, w.before args s = true) (hgv : (Jvm.Cond.and given_1 narrow_1).before args s = true) : ∀ k : Nat, ∃ q : Nat, k < 21 → vk_R (SN0.getD k ("", 0, "")).1 (SN0.getD k ("", 0, "")).2.1 (SN0.getD k ("", 0, "")).2.2 q s ∧ txF s.heap.size q (sstr.getD k []).length (fun j => (sstr.getD k []).getD j 0) s := by
  have hs := flat_of_before _ hgv
  intro k
  match k with
  | 0 => obtain ⟨q, h1, h2⟩ := text_0 hts hs; exact ⟨q, fun _ => ⟨h1, h2⟩⟩
  | 1 => obtain ⟨q, h1, h2⟩ := text_1 hts hs; exact ⟨q, fun _ => ⟨h1, h2⟩⟩
  | 2 => obtain ⟨q, h1, h2⟩ := text_2 hts hs; exact ⟨q, fun _ => ⟨h1, h2⟩⟩
  | 3 => obtain ⟨q, h1, h2⟩ := text_3 hts hs; exact ⟨q, fun _ => ⟨h1, h2⟩⟩
  | 4 => obtain ⟨q, h1, h2⟩ := text_4 hts hs; exact ⟨q, fun _ => ⟨h1, h2⟩⟩
  | 5 => obtain ⟨q, h1, h2⟩ := text_5 hts hs; exact ⟨q, fun _ => ⟨h1, h2⟩⟩
  | 6 => obtain ⟨q, h1, h2⟩ := text_6 hts hs; exact ⟨q, fun _ => ⟨h1, h2⟩⟩
  | 7 => obtain ⟨q, h1, h2⟩ := text_7 hts hs; exact ⟨q, fun _ => ⟨h1, h2⟩⟩
  | 8 => obtain ⟨q, h1, h2⟩ := text_8 hts hs; exact ⟨q, fun _ => ⟨h1, h2⟩⟩
  | 9 => obtain ⟨q, h1, h2⟩ := text_9 hts hs; exact ⟨q, fun _ => ⟨h1, h2⟩⟩
  | 10 => obtain ⟨q, h1, h2⟩ := text_10 hts hs; exact ⟨q, fun _ => ⟨h1, h2⟩⟩
  | 11 => obtain ⟨q, h1, h2⟩ := text_11 hts hs; exact ⟨q, fun _ => ⟨h1, h2⟩⟩
  | 12 => obtain ⟨q, h1, h2⟩ := text_12 hts hs; exact ⟨q, fun _ => ⟨h1, h2⟩⟩
  | 13 => obtain ⟨q, h1, h2⟩ := text_13 hts hs; exact ⟨q, fun _ => ⟨h1, h2⟩⟩
  | 14 => obtain ⟨q, h1, h2⟩ := text_14 hts hs; exact ⟨q, fun _ => ⟨h1, h2⟩⟩
  | 15 => obtain ⟨q, h1, h2⟩ := text_15 hts hs; exact ⟨q, fun _ => ⟨h1, h2⟩⟩
  | 16 => obtain ⟨q, h1, h2⟩ := text_16 hts hs; exact ⟨q, fun _ => ⟨h1, h2⟩⟩
  | 17 => obtain ⟨q, h1, h2⟩ := text_17 hts hs; exact ⟨q, fun _ => ⟨h1, h2⟩⟩
  | 18 => obtain ⟨q, h1, h2⟩ := text_18 hts hs; exact ⟨q, fun _ => ⟨h1, h2⟩⟩
  | 19 => obtain ⟨q, h1, h2⟩ := text_19 hts hs; exact ⟨q, fun _ => ⟨h1, h2⟩⟩
  | 20 => obtain ⟨q, h1, h2⟩ := text_20 hts hs; exact ⟨q, fun _ => ⟨h1, h2⟩⟩
  | n + 21 => exact ⟨0, fun h => absurd h (by omega)⟩
theorem sstr_at : ∀ k, k < 21 → sstr[k]? = some (sstr.getD k []) ∧ (sstr.getD k []).length < 2 ^ 31 ∧ ∀ j, j < (sstr.getD k []).length → (sstr.getD k []).getD j 0 &&& 255 = (sstr.getD k []).getD j 0 := by
  have h1 : (List.range 21).all (fun k => decide (sstr[k]? = some (sstr.getD k [])) && (decide ((sstr.getD k []).length < 2 ^ 31) && (List.range (sstr.getD k []).length).all (fun j => decide ((sstr.getD k []).getD j 0 &&& 255 = (sstr.getD k []).getD j 0)))) = true := by decide +kernel
  intro k hk
  have h2 := List.all_eq_true.mp h1 k (List.mem_range.mpr hk)
  simp only [Bool.and_eq_true, decide_eq_true_eq] at h2
  exact ⟨h2.1, h2.2.1, fun j hj => of_decide_eq_true (List.all_eq_true.mp h2.2.2 j (List.mem_range.mpr hj))⟩
theorem SS0_at : ∀ q ∈ SS0, ∃ k, k < 21 ∧ q = ((SN0.getD k ("", 0, "")).1, (SN0.getD k ("", 0, "")).2.1, (SN0.getD k ("", 0, "")).2.2, 8 + k) := by
  intro q hq
  simp only [SS0, List.mem_cons, List.not_mem_nil, or_false] at hq
  rcases hq with rfl | rfl | rfl | rfl | rfl | rfl | rfl | rfl | rfl | rfl | rfl | rfl | rfl | rfl | rfl | rfl | rfl | rfl | rfl | rfl | rfl
  · exact ⟨0, by decide, rfl⟩
  · exact ⟨1, by decide, rfl⟩
  · exact ⟨2, by decide, rfl⟩
  · exact ⟨3, by decide, rfl⟩
  · exact ⟨4, by decide, rfl⟩
  · exact ⟨5, by decide, rfl⟩
  · exact ⟨6, by decide, rfl⟩
  · exact ⟨7, by decide, rfl⟩
  · exact ⟨8, by decide, rfl⟩
  · exact ⟨9, by decide, rfl⟩
  · exact ⟨10, by decide, rfl⟩
  · exact ⟨11, by decide, rfl⟩
  · exact ⟨12, by decide, rfl⟩
  · exact ⟨13, by decide, rfl⟩
  · exact ⟨14, by decide, rfl⟩
  · exact ⟨15, by decide, rfl⟩
  · exact ⟨16, by decide, rfl⟩
  · exact ⟨17, by decide, rfl⟩
  · exact ⟨18, by decide, rfl⟩
  · exact ⟨19, by decide, rfl⟩
  · exact ⟨20, by decide, rfl⟩
end
section
/-! The law's run: from the claim's start to a run of the small machine. -/
theorem hE0 {L : Nat} {xs : Nat → Int32} (M pc : Nat) (i : Instr) (nx x y : Nat) (h : (mG L xs).1 M pc = some (i, nx, x, y)) (hk : ¬ ikd i = 4) : EOK Ts0 NW0 cl0 tyL0 (mG L xs) YB0 M pc i nx x y := by
  have h1 : (match l2 cds M with
    | some t => l2 t pc
    | none => none) = some (i, nx, x, y) := h
  cases ht : l2 cds M with
  | none => rw [ht] at h1; cases h1
  | some t =>
    rw [ht] at h1
    exact chkE_ok words0_ok (chkT_at (cds_at ht) h1) hk
theorem NW0_of {s : State} {args : Array Value} (hts : ∀ w ∈ lw_tbl, w.before args s = true) : ∀ w ∈ NW0, va_Nw w s := by
  intro w hw
  have h := hts _ (NW0_in w hw)
  rcases NW0_nst w hw with ⟨a, i, b, n, d, hh, rfl⟩ | ⟨a, i, x, hh, rfl⟩ | ⟨C, rfl⟩
  · exact va_Nw.of rfl h
  · exact va_Nw.of rfl h
  · exact va_AO.of h
theorem cls_of {s : State} {args : Array Value} (hts : ∀ w ∈ Ts0, w.before args s = true) : ∃ D : va_G, ∀ (k : Nat) (q : vw_C), cl0[k]? = some q → u_Kn s q.1 q.2.1 q.2.2 (D.1 k) (D.2 k) := by
  have h1 : ∀ k : Nat, ∃ w : ClassId × (Nat → Nat), ∀ q : vw_C, cl0[k]? = some q → u_Kn s q.1 q.2.1 q.2.2 w.1 w.2 := by
    intro k
    cases hk : cl0[k]? with
    | none => exact ⟨(0, fun _ => 0), fun q h => by cases h⟩
    | some q =>
      obtain ⟨C, T, N⟩ := q
      have hkl := kl_all (L := 0) (xs := fun _ => 0) k C T N hk
      obtain ⟨cC, iS, h⟩ := u_known hts hkl.2.1 (hts _ hkl.2.2.2.2.2.2.2.1)
      exact ⟨(cC, iS), fun q hq => by cases hq; exact h⟩
  exact ⟨(fun k => (Classical.choose (h1 k)).1, fun k => (Classical.choose (h1 k)).2), fun k q hq => Classical.choose_spec (h1 k) q hq⟩
theorem prim_of {s : State} {args : Array Value} {ty : FieldType} (hnot : ∀ C, ty ≠ .object C) (h : (Cond.arrayClass ty).before args s = true) : ∃ cA : ClassId, ArrOfT s cA ty ∧ va_RA s cA ty := by
  obtain ⟨c, k, comp, h1, h2, h3⟩ := Cond.arrayClass_spec h
  refine ⟨c, fun n z => ⟨fun k h => (by cases h), k, h2, comp, h3⟩, ?_⟩
  cases ty with
  | object C => exact absurd rfl (hnot C)
  | _ => exact h1
theorem obj_of {s : State} {C : String} (h : va_Nw (.arrayOver (.object C)) s) : ∃ cA : ClassId, ArrOfT s cA (.object C) ∧ va_RA s cA (.object C) := by
  obtain ⟨comp, c, k, h1, -, h2, h3, h4⟩ := Cond.arrayOver_spec (show (Cond.arrayOver (.object C)).before #[] s = true from h)
  exact ⟨c, fun n z => ⟨fun k h => (by cases h), k, h2, comp, h3⟩, k, comp, h2, h3, h1, h4⟩
theorem tys_of {s : State} {args : Array Value} (hts : ∀ w ∈ Ts0, w.before args s = true) (hnw : ∀ w ∈ NW0, va_Nw w s) : ∃ dA : Nat → ClassId, ∀ (k : Nat) (ty : FieldType), tyL0[k]? = some ty → ArrOfT s (dA k) ty ∧ va_RA s (dA k) ty := by
  have h1 : ∀ k : Nat, ∃ cA : ClassId, ∀ ty : FieldType, tyL0[k]? = some ty → ArrOfT s cA ty ∧ va_RA s cA ty := by
    intro k
    cases hk : tyL0[k]? with
    | none => exact ⟨0, fun q h => by cases h⟩
    | some t =>
      have key : ∃ cA : ClassId, ArrOfT s cA t ∧ va_RA s cA t := by
        match k, hk with
        | 0, hk => cases hk; exact prim_of (fun C h => by cases h) (hts _ words0_ok.2.2.2.2.2.1)
        | 1, hk => cases hk; exact prim_of (fun C h => by cases h) (hts _ words0_ok.2.2.2.2.2.2.1)
        | 2, hk => cases hk; exact prim_of (fun C h => by cases h) (hts _ words0_ok.2.2.2.2.2.2.2.1)
        | 3, hk => cases hk; exact obj_of (hnw _ (any_in (P := fun w => decide (w = .arrayOver (.object "HoleDesk$Node"))) (fun v hv => of_decide_eq_true hv) (by decide +kernel)))
        | 4, hk => cases hk; exact obj_of (hnw _ (any_in (P := fun w => decide (w = .arrayOver (.object "HoleDesk$Snapshot"))) (fun v hv => of_decide_eq_true hv) (by decide +kernel)))
        | 5, hk => cases hk; exact obj_of (hnw _ (any_in (P := fun w => decide (w = .arrayOver (.object "HoleDesk$Copy"))) (fun v hv => of_decide_eq_true hv) (by decide +kernel)))
        | 6, hk => cases hk; exact obj_of (hnw _ (any_in (P := fun w => decide (w = .arrayOver (.object "HoleDesk$Value"))) (fun v hv => of_decide_eq_true hv) (by decide +kernel)))
        | 7, hk => cases hk; exact obj_of (hnw _ (any_in (P := fun w => decide (w = .arrayOver (.object "HoleDesk$Seen"))) (fun v hv => of_decide_eq_true hv) (by decide +kernel)))
        | _ + 8, hk => cases hk
      obtain ⟨cA, h⟩ := key
      exact ⟨cA, fun ty hq => by cases hq; exact h⟩
  exact ⟨fun k => Classical.choose (h1 k), fun k ty hq => Classical.choose_spec (h1 k) ty hq⟩
theorem parts_of {s : State} {args : Array Value} (hts : ∀ w ∈ lw_tbl, w.before args s = true) (hgv : (Jvm.Cond.and given_1 narrow_1).before args s = true) : ∃ t : Nat, va_T .int t 16 (fun j => .int (partsA.getD j 0)) (fun q => s.heap.size ≤ q) s s.heap ∧ va_Z "HoleDesk" "PARTS" "[I" (.ref t) (fun q => s.heap.size ≤ q) s s.heap := by
  have hs := flat_of_before _ hgv
  have hA : ∀ a : Nat, a < s.heap.size → ¬ s.heap.size ≤ a := fun a h => Nat.not_le.mpr h
  obtain ⟨t, h1, h2⟩ := va_Tof (args := args) (s := s) (tm := .static "HoleDesk" "PARTS" "[I") (ty := .int) (N := 16) (f := fun j => .int (partsA.getD j 0)) (A := fun q => s.heap.size ≤ q) (by decide) (hs _ (by decide +kernel)) (va_eqt (hs (Cond.eq (.length (.static "HoleDesk" "PARTS" "[I")) (.int 16)) (by decide +kernel))) (fun j hj => by
    rcases (show j = 0 ∨ j = 1 ∨ j = 2 ∨ j = 3 ∨ j = 4 ∨ j = 5 ∨ j = 6 ∨ j = 7 ∨ j = 8 ∨ j = 9 ∨ j = 10 ∨ j = 11 ∨ j = 12 ∨ j = 13 ∨ j = 14 ∨ j = 15 by omega) with rfl | rfl | rfl | rfl | rfl | rfl | rfl | rfl | rfl | rfl | rfl | rfl | rfl | rfl | rfl | rfl
    · exact va_eqt (hs (Cond.eq (.elem (.static "HoleDesk" "PARTS" "[I") (.int 0)) (.int 0)) (by decide +kernel))
    · exact va_eqt (hs (Cond.eq (.elem (.static "HoleDesk" "PARTS" "[I") (.int 1)) (.int 0)) (by decide +kernel))
    · exact va_eqt (hs (Cond.eq (.elem (.static "HoleDesk" "PARTS" "[I") (.int 2)) (.int 0)) (by decide +kernel))
    · exact va_eqt (hs (Cond.eq (.elem (.static "HoleDesk" "PARTS" "[I") (.int 3)) (.int 0)) (by decide +kernel))
    · exact va_eqt (hs (Cond.eq (.elem (.static "HoleDesk" "PARTS" "[I") (.int 4)) (.int 2)) (by decide +kernel))
    · exact va_eqt (hs (Cond.eq (.elem (.static "HoleDesk" "PARTS" "[I") (.int 5)) (.int 2)) (by decide +kernel))
    · exact va_eqt (hs (Cond.eq (.elem (.static "HoleDesk" "PARTS" "[I") (.int 6)) (.int 2)) (by decide +kernel))
    · exact va_eqt (hs (Cond.eq (.elem (.static "HoleDesk" "PARTS" "[I") (.int 7)) (.int 2)) (by decide +kernel))
    · exact va_eqt (hs (Cond.eq (.elem (.static "HoleDesk" "PARTS" "[I") (.int 8)) (.int 1)) (by decide +kernel))
    · exact va_eqt (hs (Cond.eq (.elem (.static "HoleDesk" "PARTS" "[I") (.int 9)) (.int 2)) (by decide +kernel))
    · exact va_eqt (hs (Cond.eq (.elem (.static "HoleDesk" "PARTS" "[I") (.int 10)) (.int 2)) (by decide +kernel))
    · exact va_eqt (hs (Cond.eq (.elem (.static "HoleDesk" "PARTS" "[I") (.int 11)) (.int 3)) (by decide +kernel))
    · exact va_eqt (hs (Cond.eq (.elem (.static "HoleDesk" "PARTS" "[I") (.int 12)) (.int 2)) (by decide +kernel))
    · exact va_eqt (hs (Cond.eq (.elem (.static "HoleDesk" "PARTS" "[I") (.int 13)) (.int 1)) (by decide +kernel))
    · exact va_eqt (hs (Cond.eq (.elem (.static "HoleDesk" "PARTS" "[I") (.int 14)) (.int 1)) (by decide +kernel))
    · exact va_eqt (hs (Cond.eq (.elem (.static "HoleDesk" "PARTS" "[I") (.int 15)) (.int 1)) (by decide +kernel))) hA
  exact ⟨t, h2, va_Zof (hts _ parts_lays) (hts _ parts_init) h1 hA⟩
theorem zq_of {s : State} {args : Array Value} (hts : ∀ w ∈ lw_tbl, w.before args s = true) (hgv : (Jvm.Cond.and given_1 narrow_1).before args s = true) : zqS s.heap.size s :=
  va_Zqof (hts _ sioobe_lays) (hts _ precond_init) (flat_of_before _ hgv (Cond.isRef (.static "jdk/internal/util/Preconditions" "SIOOBE_FORMATTER" "Ljava/util/function/BiFunction;")) (by decide +kernel)) (fun a h => Nat.not_le.mpr h)
theorem cs_of {s : State} {args : Array Value} (hts : ∀ w ∈ lw_tbl, w.before args s = true) (hgv : (Jvm.Cond.and given_1 narrow_1).before args s = true) : csF s.heap.size s :=
  va_Zof (hts _ compact_lays) (hts _ string_init) (va_eqt (flat_of_before _ hgv (Cond.eq (.static "java/lang/String" "COMPACT_STRINGS" "Z") (.int 1)) (by decide +kernel))) (fun a h => Nat.not_le.mpr h)
theorem room_le {s : State} {pl : Platform} {r r' : Room} (h : s.hasRoom pl r = true) (h1 : r'.frames ≤ r.frames) (h2 : r'.cells ≤ r.cells) (h3 : r'.slots ≤ r.slots) (h4 : r'.locals ≤ r.locals) : s.hasRoom pl r' = true := by
  simp only [State.hasRoom, Bool.and_eq_true, decide_eq_true_eq] at h ⊢
  obtain ⟨⟨⟨⟨a1, a2, a3, a4, a5, a6⟩, a7⟩, a8⟩, a9⟩ := h
  exact ⟨⟨⟨⟨by omega, by omega, by omega, by omega, by omega, a6⟩, by omega⟩, by omega⟩, a9⟩
end
