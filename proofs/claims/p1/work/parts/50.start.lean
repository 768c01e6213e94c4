/-! The start: any script of at most four ints. -/
theorem b_L0 : bx 0 [] = true := by decide +kernel
theorem b_L1 : bx 1 [] = true := by decide +kernel
theorem b_L2 : bx 2 [] = true := by decide +kernel
theorem b_L3 : bx 3 [] = true := by decide +kernel
theorem whole_start {p : Program} {e : Env} {s : State} {m : MethodId} {below : List Frame} {meth : Method} {c : Code} (l : Launch) (_hflags : l.flags = flags0) {b L : Nat} {xs : Nat → Int32} (hL : L ≤ 4) (C0 : lw_At p s m meth c b L xs) :
    W p l e room_1 s m #[Value.ref b] below meth c s.heap [] 0 0 (lw_Z below #[Value.ref b] s) (entryFrame m ([Value.ref b] : List Value).toArray 4) := by
  rcases (show L = 0 ∨ L = 1 ∨ L = 2 ∨ L = 3 ∨ L = 4 by omega) with rfl | rfl | rfl | rfl | rfl
  · exact fin_bx l (by decide) C0 b_L0 (fun j a b h => by cases h)
  · exact fin_bx l (by decide) C0 b_L1 (fun j a b h => by cases h)
  · exact fin_bx l (by decide) C0 b_L2 (fun j a b h => by cases h)
  · exact fin_bx l (by decide) C0 b_L3 (fun j a b h => by cases h)
  · obtain ⟨j, hj, hje⟩ := pk_andE (xs 0) (m := 63) 6 (by decide)
    have h6 : j < 64 := hj
    have hn : (xs 0 &&& 63).toInt = (j : Int) := by rw [hje]; exact nI_toInt (by omega)
    rcases Nat.lt_or_ge j 38 with h38 | h38
    · rcases (show j = 0 ∨ j = 1 ∨ j = 2 ∨ j = 3 ∨ j = 4 ∨ j = 5 ∨ j = 6 ∨ j = 7 ∨ j = 8 ∨ j = 9 ∨ j = 10 ∨ j = 11 ∨ j = 12 ∨ j = 13 ∨ j = 14 ∨ j = 15 ∨ j = 16 ∨ j = 17 ∨ j = 18 ∨ j = 19 ∨ j = 20 ∨ j = 21 ∨ j = 22 ∨ j = 23 ∨ j = 24 ∨ j = 25 ∨ j = 26 ∨ j = 27 ∨ j = 28 ∨ j = 29 ∨ j = 30 ∨ j = 31 ∨ j = 32 ∨ j = 33 ∨ j = 34 ∨ j = 35 ∨ j = 36 ∨ j = 37 by omega) with rfl | rfl | rfl | rfl | rfl | rfl | rfl | rfl | rfl | rfl | rfl | rfl | rfl | rfl | rfl | rfl | rfl | rfl | rfl | rfl | rfl | rfl | rfl | rfl | rfl | rfl | rfl | rfl | rfl | rfl | rfl | rfl | rfl | rfl | rfl | rfl | rfl | rfl
      · exact case_0 C0 ⟨by omega, by omega⟩
      · exact case_1 C0 ⟨by omega, by omega⟩
      · exact case_2 C0 ⟨by omega, by omega⟩
      · exact case_3 C0 ⟨by omega, by omega⟩
      · exact case_4 C0 ⟨by omega, by omega⟩
      · exact case_5 C0 ⟨by omega, by omega⟩
      · exact case_6 C0 ⟨by omega, by omega⟩
      · exact case_7 C0 ⟨by omega, by omega⟩
      · exact case_8 C0 ⟨by omega, by omega⟩
      · exact case_9 C0 ⟨by omega, by omega⟩
      · exact case_10 C0 ⟨by omega, by omega⟩
      · exact case_11 C0 ⟨by omega, by omega⟩
      · exact case_12 C0 ⟨by omega, by omega⟩
      · exact case_13 C0 ⟨by omega, by omega⟩
      · exact case_14 C0 ⟨by omega, by omega⟩
      · exact case_15 C0 ⟨by omega, by omega⟩
      · exact case_16 C0 ⟨by omega, by omega⟩
      · exact case_17 C0 ⟨by omega, by omega⟩
      · exact case_18 C0 ⟨by omega, by omega⟩
      · exact case_19 C0 ⟨by omega, by omega⟩
      · exact case_20 C0 ⟨by omega, by omega⟩
      · exact case_21 C0 ⟨by omega, by omega⟩
      · exact case_22 C0 ⟨by omega, by omega⟩
      · exact case_23 C0 ⟨by omega, by omega⟩
      · exact case_24 C0 ⟨by omega, by omega⟩
      · exact case_25 C0 ⟨by omega, by omega⟩
      · exact case_26 C0 ⟨by omega, by omega⟩
      · exact case_27 C0 ⟨by omega, by omega⟩
      · exact case_28 C0 ⟨by omega, by omega⟩
      · exact case_29 C0 ⟨by omega, by omega⟩
      · exact case_30 C0 ⟨by omega, by omega⟩
      · exact case_31 C0 ⟨by omega, by omega⟩
      · exact case_32 C0 ⟨by omega, by omega⟩
      · exact case_33 C0 ⟨by omega, by omega⟩
      · exact case_34 C0 ⟨by omega, by omega⟩
      · exact case_35 C0 ⟨by omega, by omega⟩
      · exact case_36 C0 ⟨by omega, by omega⟩
      · exact case_37 C0 ⟨by omega, by omega⟩
    · exact case_38 C0 ⟨by omega, by omega⟩
