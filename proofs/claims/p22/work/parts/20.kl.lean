/-! The classes of the tables, by the words. -/
theorem NW0_nst : ∀ w ∈ NW0, nst w := by
  intro w hw
  simp only [NW0, List.mem_cons, List.not_mem_nil, or_false] at hw
  rcases hw with rfl | rfl | rfl | rfl | rfl | rfl | rfl | rfl | rfl | rfl | rfl | rfl | rfl | rfl | rfl
  · exact Or.inr (Or.inr ⟨_, rfl⟩)
  · exact Or.inr (Or.inr ⟨_, rfl⟩)
  · exact Or.inl ⟨_, _, _, _, _, _, rfl⟩
  · exact Or.inr (Or.inl ⟨_, _, _, _, rfl⟩)
  · exact Or.inr (Or.inl ⟨_, _, _, _, rfl⟩)
  · exact Or.inr (Or.inl ⟨_, _, _, _, rfl⟩)
  · exact Or.inr (Or.inr ⟨_, rfl⟩)
  · exact Or.inr (Or.inr ⟨_, rfl⟩)
  · exact Or.inr (Or.inl ⟨_, _, _, _, rfl⟩)
  · exact Or.inr (Or.inr ⟨_, rfl⟩)
  · exact Or.inr (Or.inl ⟨_, _, _, _, rfl⟩)
  · exact Or.inr (Or.inl ⟨_, _, _, _, rfl⟩)
  · exact Or.inr (Or.inl ⟨_, _, _, _, rfl⟩)
  · exact Or.inr (Or.inl ⟨_, _, _, _, rfl⟩)
  · exact Or.inr (Or.inl ⟨_, _, _, _, rfl⟩)
theorem tyL0_ok : mTL tyL0 := by
  refine ⟨rfl, rfl, rfl, fun ti h3 h8 => ?_⟩
  rcases (show ti = 3 ∨ ti = 4 ∨ ti = 5 ∨ ti = 6 ∨ ti = 7 by omega) with rfl | rfl | rfl | rfl | rfl <;> exact ⟨_, rfl⟩
theorem kl_of {L : Nat} {xs : Nat → Int32} {i N : Nat} {C : String} {F : List (String × String × String × Bool)} {hl : List (Nat × Nat)} {qi qn : Nat × Nat} (h1 : cl0[i]? = some (C, tfl F, N))
    (h2 : (List.range N).all (fun k => match hl[k]? with
      | some q => wat q (u_lay C (tfl F) k)
      | none => false) = true)
    (h3 : (List.range N).all (fun k => decide ((tfl F k).1 = C) && decide (parseFieldDescriptor (tfl F k).2.2.1 = some ((fts.getD i []).getD k .int))) = true)
    (h4 : ∀ a, a < N → ∀ b, b < N → a ≠ b → (tfl F a).2.1 ≠ (tfl F b).2.1) (h5 : (bls.getD i []).length = N)
    (h6 : (List.range N).all (fun k => decide (defaultValue ((fts.getD i []).getD k .int) = vp_V (bls.getD i []) k)) = true) (h7 : (bls.getD i []).all (fun v => match v with
      | .ref _ | .retAddr _ => false
      | _ => true) = true) (h8 : wat qi (.instantiable C N) = true) (h9 : wat qn (.initialized C) = true) : mKl cl0 Ts0 (mG L xs) i C (tfl F) N := by
  refine ⟨h1, fun w hw => ?_, fun k hk => ?_, h4, h5, fun j hj => ?_, fun v hv => ⟨fun a e => ?_, fun j e => ?_⟩, wat_in h8, wat_in h9⟩
  · obtain ⟨k, hk, rfl⟩ := List.mem_map.mp hw
    have h := List.all_eq_true.mp h2 k hk
    cases hq : hl[k]? with
    | none => rw [hq] at h; cases h
    | some q => rw [hq] at h; exact wat_in h
  · have h := List.all_eq_true.mp h3 k (List.mem_range.mpr hk)
    simp only [Bool.and_eq_true, decide_eq_true_eq] at h
    exact h
  · exact of_decide_eq_true (List.all_eq_true.mp h6 j (List.mem_range.mpr hj))
  · have h := List.all_eq_true.mp h7 v hv
    rw [e] at h
    cases h
  · have h := List.all_eq_true.mp h7 v hv
    rw [e] at h
    cases h
theorem kl_0 {L : Nat} {xs : Nat → Int32} : mKl cl0 Ts0 (mG L xs) 0 "HoleDesk" (tfl fl_0) 16 := kl_of (hl := hl_0) (qi := (1, 20)) (qn := (1, 1)) rfl (by decide +kernel) (by decide +kernel) (by decide +kernel) (by decide +kernel) (by decide +kernel) (by decide +kernel) (by decide +kernel) (by decide +kernel)
theorem kl_1 {L : Nat} {xs : Nat → Int32} : mKl cl0 Ts0 (mG L xs) 1 "HoleDesk$Copy" (tfl fl_1) 6 := kl_of (hl := hl_1) (qi := (2, 107)) (qn := (1, 10)) rfl (by decide +kernel) (by decide +kernel) (by decide +kernel) (by decide +kernel) (by decide +kernel) (by decide +kernel) (by decide +kernel) (by decide +kernel)
theorem kl_2 {L : Nat} {xs : Nat → Int32} : mKl cl0 Ts0 (mG L xs) 2 "HoleDesk$Judge" (tfl fl_2) 1 := kl_of (hl := hl_2) (qi := (2, 8)) (qn := (1, 6)) rfl (by decide +kernel) (by decide +kernel) (by decide +kernel) (by decide +kernel) (by decide +kernel) (by decide +kernel) (by decide +kernel) (by decide +kernel)
theorem kl_3 {L : Nat} {xs : Nat → Int32} : mKl cl0 Ts0 (mG L xs) 3 "HoleDesk$Kinds" (tfl fl_3) 6 := kl_of (hl := hl_3) (qi := (1, 28)) (qn := (1, 2)) rfl (by decide +kernel) (by decide +kernel) (by decide +kernel) (by decide +kernel) (by decide +kernel) (by decide +kernel) (by decide +kernel) (by decide +kernel)
theorem kl_4 {L : Nat} {xs : Nat → Int32} : mKl cl0 Ts0 (mG L xs) 4 "HoleDesk$Node" (tfl fl_4) 13 := kl_of (hl := hl_4) (qi := (1, 80)) (qn := (1, 4)) rfl (by decide +kernel) (by decide +kernel) (by decide +kernel) (by decide +kernel) (by decide +kernel) (by decide +kernel) (by decide +kernel) (by decide +kernel)
theorem kl_5 {L : Nat} {xs : Nat → Int32} : mKl cl0 Ts0 (mG L xs) 5 "HoleDesk$Pool" (tfl fl_5) 4 := kl_of (hl := hl_5) (qi := (2, 24)) (qn := (1, 8)) rfl (by decide +kernel) (by decide +kernel) (by decide +kernel) (by decide +kernel) (by decide +kernel) (by decide +kernel) (by decide +kernel) (by decide +kernel)
theorem kl_6 {L : Nat} {xs : Nat → Int32} : mKl cl0 Ts0 (mG L xs) 6 "HoleDesk$Seen" (tfl fl_6) 3 := kl_of (hl := hl_6) (qi := (4, 176)) (qn := (1, 18)) rfl (by decide +kernel) (by decide +kernel) (by decide +kernel) (by decide +kernel) (by decide +kernel) (by decide +kernel) (by decide +kernel) (by decide +kernel)
theorem kl_7 {L : Nat} {xs : Nat → Int32} : mKl cl0 Ts0 (mG L xs) 7 "HoleDesk$Sheet" (tfl fl_7) 8 := kl_of (hl := hl_7) (qi := (1, 67)) (qn := (1, 3)) rfl (by decide +kernel) (by decide +kernel) (by decide +kernel) (by decide +kernel) (by decide +kernel) (by decide +kernel) (by decide +kernel) (by decide +kernel)
theorem kl_8 {L : Nat} {xs : Nat → Int32} : mKl cl0 Ts0 (mG L xs) 8 "HoleDesk$Snapshot" (tfl fl_8) 6 := kl_of (hl := hl_8) (qi := (1, 186)) (qn := (1, 5)) rfl (by decide +kernel) (by decide +kernel) (by decide +kernel) (by decide +kernel) (by decide +kernel) (by decide +kernel) (by decide +kernel) (by decide +kernel)
theorem kl_9 {L : Nat} {xs : Nat → Int32} : mKl cl0 Ts0 (mG L xs) 9 "HoleDesk$Value" (tfl fl_9) 7 := kl_of (hl := hl_9) (qi := (4, 108)) (qn := (1, 17)) rfl (by decide +kernel) (by decide +kernel) (by decide +kernel) (by decide +kernel) (by decide +kernel) (by decide +kernel) (by decide +kernel) (by decide +kernel)
theorem kl_10 {L : Nat} {xs : Nat → Int32} : mKl cl0 Ts0 (mG L xs) 10 "HoleDesk$Worker" (tfl fl_10) 7 := kl_of (hl := hl_10) (qi := (2, 18)) (qn := (1, 7)) rfl (by decide +kernel) (by decide +kernel) (by decide +kernel) (by decide +kernel) (by decide +kernel) (by decide +kernel) (by decide +kernel) (by decide +kernel)
theorem kl_11 {L : Nat} {xs : Nat → Int32} : mKl cl0 Ts0 (mG L xs) 11 "HoleDesk$Writer" (tfl fl_11) 7 := kl_of (hl := hl_11) (qi := (2, 73)) (qn := (1, 9)) rfl (by decide +kernel) (by decide +kernel) (by decide +kernel) (by decide +kernel) (by decide +kernel) (by decide +kernel) (by decide +kernel) (by decide +kernel)
theorem kl_12 {L : Nat} {xs : Nat → Int32} : mKl cl0 Ts0 (mG L xs) 12 "HoleDeskModel" (tfl fl_12) 74 := kl_of (hl := hl_12) (qi := (5, 158)) (qn := (1, 11)) rfl (by decide +kernel) (by decide +kernel) (by decide +kernel) (by decide +kernel) (by decide +kernel) (by decide +kernel) (by decide +kernel) (by decide +kernel)
theorem kl_all {L : Nat} {xs : Nat → Int32} : ∀ (i : Nat) (C : String) (T : u_T) (N : Nat), cl0[i]? = some (C, T, N) → mKl cl0 Ts0 (mG L xs) i C T N := by
  intro i C T N h
  match i, h with
  | 0, h => cases h; exact kl_0
  | 1, h => cases h; exact kl_1
  | 2, h => cases h; exact kl_2
  | 3, h => cases h; exact kl_3
  | 4, h => cases h; exact kl_4
  | 5, h => cases h; exact kl_5
  | 6, h => cases h; exact kl_6
  | 7, h => cases h; exact kl_7
  | 8, h => cases h; exact kl_8
  | 9, h => cases h; exact kl_9
  | 10, h => cases h; exact kl_10
  | 11, h => cases h; exact kl_11
  | 12, h => cases h; exact kl_12
  | _ + 13, h => cases h
