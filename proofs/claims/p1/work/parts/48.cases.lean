/-! One call on a fresh object: every case of the law, by boxes of its ints. -/
theorem iv5 {xs : Nat → Int32} {a1 b1 a2 b2 a3 b3 k1 k2 : Int} (h0 : k1 ≤ (xs 0 &&& 63).toInt ∧ (xs 0 &&& 63).toInt ≤ k2) (h1 : a1 ≤ (xs 1).toInt ∧ (xs 1).toInt ≤ b1) (h2 : a2 ≤ (xs 2).toInt ∧ (xs 2).toInt ≤ b2) (h3 : a3 ≤ (xs 3).toInt ∧ (xs 3).toInt ≤ b3) (j : Nat) (a b : Int)
    (h : [(-2147483648, 2147483647), (a1, b1), (a2, b2), (a3, b3), (k1, k2)][j]? = some (a, b)) : a ≤ (rho xs j).toInt ∧ (rho xs j).toInt ≤ b := by
  match j, h with
  | 0, h => cases h; have r1 := (xs 0).toInt_lt; have r2 := (xs 0).le_toInt; exact ⟨by show _ ≤ (xs 0).toInt; omega, by show (xs 0).toInt ≤ _; omega⟩
  | 1, h => cases h; exact h1
  | 2, h => cases h; exact h2
  | 3, h => cases h; exact h3
  | 4, h => cases h; exact h0
  | _ + 5, h => cases h
theorem case_0 {p : Program} {e : Env} {s : State} {m : MethodId} {below : List Frame} {meth : Method} {c : Code} {l : Launch} {b : Nat} {xs : Nat → Int32} (C0 : lw_At p s m meth c b 4 xs) (hk : 0 ≤ (xs 0 &&& 63).toInt ∧ (xs 0 &&& 63).toInt ≤ 0) : W p l e room_1 s m #[Value.ref b] below meth c s.heap [] 0 0 (lw_Z below #[Value.ref b] s) (entryFrame m ([Value.ref b] : List Value).toArray 4) := by
  have r1 := (xs 1).toInt_lt
  have r2 := (xs 1).le_toInt
  have r3 := (xs 2).toInt_lt
  have r4 := (xs 2).le_toInt
  have r5 := (xs 3).toInt_lt
  have r6 := (xs 3).le_toInt
  rcases Int.lt_or_le (xs 1).toInt (0) with h | h
  · rcases Int.lt_or_le (xs 2).toInt (0) with h | h
    · exact fin_bx l (by decide) C0 b_0_0 (iv5 hk ⟨by omega, by omega⟩ ⟨by omega, by omega⟩ ⟨by omega, by omega⟩)
    · skip
      rcases Int.lt_or_le (xs 2).toInt (3) with h | h
      · rcases Int.lt_or_le (xs 3).toInt (0) with h | h
        · exact fin_bx l (by decide) C0 b_0_1 (iv5 hk ⟨by omega, by omega⟩ ⟨by omega, by omega⟩ ⟨by omega, by omega⟩)
        · skip
          rcases Int.lt_or_le (xs 3).toInt (3) with h | h
          · rcases Int.lt_or_le (xs 2).toInt (1) with h | h
            · rcases Int.lt_or_le (xs 3).toInt (1) with h | h
              · exact fin_bx l (by decide) C0 b_0_2 (iv5 hk ⟨by omega, by omega⟩ ⟨by omega, by omega⟩ ⟨by omega, by omega⟩)
              · skip
                rcases Int.lt_or_le (xs 3).toInt (2) with h | h
                · exact fin_bx l (by decide) C0 b_0_3 (iv5 hk ⟨by omega, by omega⟩ ⟨by omega, by omega⟩ ⟨by omega, by omega⟩)
                · skip
                  exact fin_bx l (by decide) C0 b_0_4 (iv5 hk ⟨by omega, by omega⟩ ⟨by omega, by omega⟩ ⟨by omega, by omega⟩)
            · skip
              rcases Int.lt_or_le (xs 2).toInt (2) with h | h
              · rcases Int.lt_or_le (xs 3).toInt (1) with h | h
                · exact fin_bx l (by decide) C0 b_0_5 (iv5 hk ⟨by omega, by omega⟩ ⟨by omega, by omega⟩ ⟨by omega, by omega⟩)
                · skip
                  rcases Int.lt_or_le (xs 3).toInt (2) with h | h
                  · exact fin_bx l (by decide) C0 b_0_6 (iv5 hk ⟨by omega, by omega⟩ ⟨by omega, by omega⟩ ⟨by omega, by omega⟩)
                  · skip
                    exact fin_bx l (by decide) C0 b_0_7 (iv5 hk ⟨by omega, by omega⟩ ⟨by omega, by omega⟩ ⟨by omega, by omega⟩)
              · skip
                rcases Int.lt_or_le (xs 3).toInt (1) with h | h
                · exact fin_bx l (by decide) C0 b_0_8 (iv5 hk ⟨by omega, by omega⟩ ⟨by omega, by omega⟩ ⟨by omega, by omega⟩)
                · skip
                  rcases Int.lt_or_le (xs 3).toInt (2) with h | h
                  · exact fin_bx l (by decide) C0 b_0_9 (iv5 hk ⟨by omega, by omega⟩ ⟨by omega, by omega⟩ ⟨by omega, by omega⟩)
                  · skip
                    exact fin_bx l (by decide) C0 b_0_10 (iv5 hk ⟨by omega, by omega⟩ ⟨by omega, by omega⟩ ⟨by omega, by omega⟩)
          · skip
            exact fin_bx l (by decide) C0 b_0_11 (iv5 hk ⟨by omega, by omega⟩ ⟨by omega, by omega⟩ ⟨by omega, by omega⟩)
      · skip
        exact fin_bx l (by decide) C0 b_0_12 (iv5 hk ⟨by omega, by omega⟩ ⟨by omega, by omega⟩ ⟨by omega, by omega⟩)
  · skip
    rcases Int.lt_or_le (xs 1).toInt (1) with h | h
    · rcases Int.lt_or_le (xs 2).toInt (0) with h | h
      · exact fin_bx l (by decide) C0 b_0_13 (iv5 hk ⟨by omega, by omega⟩ ⟨by omega, by omega⟩ ⟨by omega, by omega⟩)
      · skip
        rcases Int.lt_or_le (xs 2).toInt (3) with h | h
        · rcases Int.lt_or_le (xs 3).toInt (0) with h | h
          · exact fin_bx l (by decide) C0 b_0_14 (iv5 hk ⟨by omega, by omega⟩ ⟨by omega, by omega⟩ ⟨by omega, by omega⟩)
          · skip
            rcases Int.lt_or_le (xs 3).toInt (3) with h | h
            · rcases Int.lt_or_le (xs 2).toInt (1) with h | h
              · rcases Int.lt_or_le (xs 3).toInt (1) with h | h
                · exact fin_bx l (by decide) C0 b_0_15 (iv5 hk ⟨by omega, by omega⟩ ⟨by omega, by omega⟩ ⟨by omega, by omega⟩)
                · skip
                  rcases Int.lt_or_le (xs 3).toInt (2) with h | h
                  · exact fin_bx l (by decide) C0 b_0_16 (iv5 hk ⟨by omega, by omega⟩ ⟨by omega, by omega⟩ ⟨by omega, by omega⟩)
                  · skip
                    exact fin_bx l (by decide) C0 b_0_17 (iv5 hk ⟨by omega, by omega⟩ ⟨by omega, by omega⟩ ⟨by omega, by omega⟩)
              · skip
                rcases Int.lt_or_le (xs 2).toInt (2) with h | h
                · rcases Int.lt_or_le (xs 3).toInt (1) with h | h
                  · exact fin_bx l (by decide) C0 b_0_18 (iv5 hk ⟨by omega, by omega⟩ ⟨by omega, by omega⟩ ⟨by omega, by omega⟩)
                  · skip
                    rcases Int.lt_or_le (xs 3).toInt (2) with h | h
                    · exact fin_bx l (by decide) C0 b_0_19 (iv5 hk ⟨by omega, by omega⟩ ⟨by omega, by omega⟩ ⟨by omega, by omega⟩)
                    · skip
                      exact fin_bx l (by decide) C0 b_0_20 (iv5 hk ⟨by omega, by omega⟩ ⟨by omega, by omega⟩ ⟨by omega, by omega⟩)
                · skip
                  rcases Int.lt_or_le (xs 3).toInt (1) with h | h
                  · exact fin_bx l (by decide) C0 b_0_21 (iv5 hk ⟨by omega, by omega⟩ ⟨by omega, by omega⟩ ⟨by omega, by omega⟩)
                  · skip
                    rcases Int.lt_or_le (xs 3).toInt (2) with h | h
                    · exact fin_bx l (by decide) C0 b_0_22 (iv5 hk ⟨by omega, by omega⟩ ⟨by omega, by omega⟩ ⟨by omega, by omega⟩)
                    · skip
                      exact fin_bx l (by decide) C0 b_0_23 (iv5 hk ⟨by omega, by omega⟩ ⟨by omega, by omega⟩ ⟨by omega, by omega⟩)
            · skip
              exact fin_bx l (by decide) C0 b_0_24 (iv5 hk ⟨by omega, by omega⟩ ⟨by omega, by omega⟩ ⟨by omega, by omega⟩)
        · skip
          exact fin_bx l (by decide) C0 b_0_25 (iv5 hk ⟨by omega, by omega⟩ ⟨by omega, by omega⟩ ⟨by omega, by omega⟩)
    · skip
      rcases Int.lt_or_le (xs 2).toInt (0) with h | h
      · exact fin_bx l (by decide) C0 b_0_26 (iv5 hk ⟨by omega, by omega⟩ ⟨by omega, by omega⟩ ⟨by omega, by omega⟩)
      · skip
        rcases Int.lt_or_le (xs 2).toInt (3) with h | h
        · rcases Int.lt_or_le (xs 3).toInt (0) with h | h
          · exact fin_bx l (by decide) C0 b_0_27 (iv5 hk ⟨by omega, by omega⟩ ⟨by omega, by omega⟩ ⟨by omega, by omega⟩)
          · skip
            rcases Int.lt_or_le (xs 3).toInt (3) with h | h
            · rcases Int.lt_or_le (xs 2).toInt (1) with h | h
              · rcases Int.lt_or_le (xs 3).toInt (1) with h | h
                · exact fin_bx l (by decide) C0 b_0_28 (iv5 hk ⟨by omega, by omega⟩ ⟨by omega, by omega⟩ ⟨by omega, by omega⟩)
                · skip
                  rcases Int.lt_or_le (xs 3).toInt (2) with h | h
                  · exact fin_bx l (by decide) C0 b_0_29 (iv5 hk ⟨by omega, by omega⟩ ⟨by omega, by omega⟩ ⟨by omega, by omega⟩)
                  · skip
                    exact fin_bx l (by decide) C0 b_0_30 (iv5 hk ⟨by omega, by omega⟩ ⟨by omega, by omega⟩ ⟨by omega, by omega⟩)
              · skip
                rcases Int.lt_or_le (xs 2).toInt (2) with h | h
                · rcases Int.lt_or_le (xs 3).toInt (1) with h | h
                  · exact fin_bx l (by decide) C0 b_0_31 (iv5 hk ⟨by omega, by omega⟩ ⟨by omega, by omega⟩ ⟨by omega, by omega⟩)
                  · skip
                    rcases Int.lt_or_le (xs 3).toInt (2) with h | h
                    · exact fin_bx l (by decide) C0 b_0_32 (iv5 hk ⟨by omega, by omega⟩ ⟨by omega, by omega⟩ ⟨by omega, by omega⟩)
                    · skip
                      exact fin_bx l (by decide) C0 b_0_33 (iv5 hk ⟨by omega, by omega⟩ ⟨by omega, by omega⟩ ⟨by omega, by omega⟩)
                · skip
                  rcases Int.lt_or_le (xs 3).toInt (1) with h | h
                  · exact fin_bx l (by decide) C0 b_0_34 (iv5 hk ⟨by omega, by omega⟩ ⟨by omega, by omega⟩ ⟨by omega, by omega⟩)
                  · skip
                    rcases Int.lt_or_le (xs 3).toInt (2) with h | h
                    · exact fin_bx l (by decide) C0 b_0_35 (iv5 hk ⟨by omega, by omega⟩ ⟨by omega, by omega⟩ ⟨by omega, by omega⟩)
                    · skip
                      exact fin_bx l (by decide) C0 b_0_36 (iv5 hk ⟨by omega, by omega⟩ ⟨by omega, by omega⟩ ⟨by omega, by omega⟩)
            · skip
              exact fin_bx l (by decide) C0 b_0_37 (iv5 hk ⟨by omega, by omega⟩ ⟨by omega, by omega⟩ ⟨by omega, by omega⟩)
        · skip
          exact fin_bx l (by decide) C0 b_0_38 (iv5 hk ⟨by omega, by omega⟩ ⟨by omega, by omega⟩ ⟨by omega, by omega⟩)
theorem case_1 {p : Program} {e : Env} {s : State} {m : MethodId} {below : List Frame} {meth : Method} {c : Code} {l : Launch} {b : Nat} {xs : Nat → Int32} (C0 : lw_At p s m meth c b 4 xs) (hk : 1 ≤ (xs 0 &&& 63).toInt ∧ (xs 0 &&& 63).toInt ≤ 1) : W p l e room_1 s m #[Value.ref b] below meth c s.heap [] 0 0 (lw_Z below #[Value.ref b] s) (entryFrame m ([Value.ref b] : List Value).toArray 4) := by
  have r1 := (xs 1).toInt_lt
  have r2 := (xs 1).le_toInt
  have r3 := (xs 2).toInt_lt
  have r4 := (xs 2).le_toInt
  have r5 := (xs 3).toInt_lt
  have r6 := (xs 3).le_toInt
  rcases Int.lt_or_le (xs 1).toInt (0) with h | h
  · exact fin_bx l (by decide) C0 b_1_0 (iv5 hk ⟨by omega, by omega⟩ ⟨by omega, by omega⟩ ⟨by omega, by omega⟩)
  · skip
    rcases Int.lt_or_le (xs 1).toInt (3) with h | h
    · rcases Int.lt_or_le (xs 2).toInt (0) with h | h
      · exact fin_bx l (by decide) C0 b_1_1 (iv5 hk ⟨by omega, by omega⟩ ⟨by omega, by omega⟩ ⟨by omega, by omega⟩)
      · skip
        rcases Int.lt_or_le (xs 2).toInt (4) with h | h
        · rcases Int.lt_or_le (xs 2).toInt (1) with h | h
          · rcases Int.lt_or_le (xs 1).toInt (1) with h | h
            · exact fin_bx l (by decide) C0 b_1_2 (iv5 hk ⟨by omega, by omega⟩ ⟨by omega, by omega⟩ ⟨by omega, by omega⟩)
            · skip
              rcases Int.lt_or_le (xs 1).toInt (2) with h | h
              · exact fin_bx l (by decide) C0 b_1_3 (iv5 hk ⟨by omega, by omega⟩ ⟨by omega, by omega⟩ ⟨by omega, by omega⟩)
              · skip
                exact fin_bx l (by decide) C0 b_1_4 (iv5 hk ⟨by omega, by omega⟩ ⟨by omega, by omega⟩ ⟨by omega, by omega⟩)
          · skip
            rcases Int.lt_or_le (xs 2).toInt (2) with h | h
            · rcases Int.lt_or_le (xs 1).toInt (1) with h | h
              · exact fin_bx l (by decide) C0 b_1_5 (iv5 hk ⟨by omega, by omega⟩ ⟨by omega, by omega⟩ ⟨by omega, by omega⟩)
              · skip
                rcases Int.lt_or_le (xs 1).toInt (2) with h | h
                · exact fin_bx l (by decide) C0 b_1_6 (iv5 hk ⟨by omega, by omega⟩ ⟨by omega, by omega⟩ ⟨by omega, by omega⟩)
                · skip
                  exact fin_bx l (by decide) C0 b_1_7 (iv5 hk ⟨by omega, by omega⟩ ⟨by omega, by omega⟩ ⟨by omega, by omega⟩)
            · skip
              rcases Int.lt_or_le (xs 2).toInt (3) with h | h
              · rcases Int.lt_or_le (xs 1).toInt (1) with h | h
                · exact fin_bx l (by decide) C0 b_1_8 (iv5 hk ⟨by omega, by omega⟩ ⟨by omega, by omega⟩ ⟨by omega, by omega⟩)
                · skip
                  rcases Int.lt_or_le (xs 1).toInt (2) with h | h
                  · exact fin_bx l (by decide) C0 b_1_9 (iv5 hk ⟨by omega, by omega⟩ ⟨by omega, by omega⟩ ⟨by omega, by omega⟩)
                  · skip
                    exact fin_bx l (by decide) C0 b_1_10 (iv5 hk ⟨by omega, by omega⟩ ⟨by omega, by omega⟩ ⟨by omega, by omega⟩)
              · skip
                rcases Int.lt_or_le (xs 1).toInt (1) with h | h
                · exact fin_bx l (by decide) C0 b_1_11 (iv5 hk ⟨by omega, by omega⟩ ⟨by omega, by omega⟩ ⟨by omega, by omega⟩)
                · skip
                  rcases Int.lt_or_le (xs 1).toInt (2) with h | h
                  · exact fin_bx l (by decide) C0 b_1_12 (iv5 hk ⟨by omega, by omega⟩ ⟨by omega, by omega⟩ ⟨by omega, by omega⟩)
                  · skip
                    exact fin_bx l (by decide) C0 b_1_13 (iv5 hk ⟨by omega, by omega⟩ ⟨by omega, by omega⟩ ⟨by omega, by omega⟩)
        · skip
          exact fin_bx l (by decide) C0 b_1_14 (iv5 hk ⟨by omega, by omega⟩ ⟨by omega, by omega⟩ ⟨by omega, by omega⟩)
    · skip
      exact fin_bx l (by decide) C0 b_1_15 (iv5 hk ⟨by omega, by omega⟩ ⟨by omega, by omega⟩ ⟨by omega, by omega⟩)
theorem case_2 {p : Program} {e : Env} {s : State} {m : MethodId} {below : List Frame} {meth : Method} {c : Code} {l : Launch} {b : Nat} {xs : Nat → Int32} (C0 : lw_At p s m meth c b 4 xs) (hk : 2 ≤ (xs 0 &&& 63).toInt ∧ (xs 0 &&& 63).toInt ≤ 2) : W p l e room_1 s m #[Value.ref b] below meth c s.heap [] 0 0 (lw_Z below #[Value.ref b] s) (entryFrame m ([Value.ref b] : List Value).toArray 4) := by
  have r1 := (xs 1).toInt_lt
  have r2 := (xs 1).le_toInt
  have r3 := (xs 2).toInt_lt
  have r4 := (xs 2).le_toInt
  have r5 := (xs 3).toInt_lt
  have r6 := (xs 3).le_toInt
  rcases Int.lt_or_le (xs 1).toInt (0) with h | h
  · exact fin_bx l (by decide) C0 b_2_0 (iv5 hk ⟨by omega, by omega⟩ ⟨by omega, by omega⟩ ⟨by omega, by omega⟩)
  · skip
    rcases Int.lt_or_le (xs 1).toInt (3) with h | h
    · rcases Int.lt_or_le (xs 2).toInt (0) with h | h
      · exact fin_bx l (by decide) C0 b_2_1 (iv5 hk ⟨by omega, by omega⟩ ⟨by omega, by omega⟩ ⟨by omega, by omega⟩)
      · skip
        rcases Int.lt_or_le (xs 2).toInt (3) with h | h
        · rcases Int.lt_or_le (xs 1).toInt (1) with h | h
          · exact fin_bx l (by decide) C0 b_2_2 (iv5 hk ⟨by omega, by omega⟩ ⟨by omega, by omega⟩ ⟨by omega, by omega⟩)
          · skip
            rcases Int.lt_or_le (xs 1).toInt (2) with h | h
            · rcases Int.lt_or_le (xs 2).toInt (1) with h | h
              · exact fin_bx l (by decide) C0 b_2_3 (iv5 hk ⟨by omega, by omega⟩ ⟨by omega, by omega⟩ ⟨by omega, by omega⟩)
              · skip
                rcases Int.lt_or_le (xs 2).toInt (2) with h | h
                · exact fin_bx l (by decide) C0 b_2_4 (iv5 hk ⟨by omega, by omega⟩ ⟨by omega, by omega⟩ ⟨by omega, by omega⟩)
                · skip
                  exact fin_bx l (by decide) C0 b_2_5 (iv5 hk ⟨by omega, by omega⟩ ⟨by omega, by omega⟩ ⟨by omega, by omega⟩)
            · skip
              rcases Int.lt_or_le (xs 2).toInt (1) with h | h
              · exact fin_bx l (by decide) C0 b_2_6 (iv5 hk ⟨by omega, by omega⟩ ⟨by omega, by omega⟩ ⟨by omega, by omega⟩)
              · skip
                rcases Int.lt_or_le (xs 2).toInt (2) with h | h
                · exact fin_bx l (by decide) C0 b_2_7 (iv5 hk ⟨by omega, by omega⟩ ⟨by omega, by omega⟩ ⟨by omega, by omega⟩)
                · skip
                  exact fin_bx l (by decide) C0 b_2_8 (iv5 hk ⟨by omega, by omega⟩ ⟨by omega, by omega⟩ ⟨by omega, by omega⟩)
        · skip
          exact fin_bx l (by decide) C0 b_2_9 (iv5 hk ⟨by omega, by omega⟩ ⟨by omega, by omega⟩ ⟨by omega, by omega⟩)
    · skip
      exact fin_bx l (by decide) C0 b_2_10 (iv5 hk ⟨by omega, by omega⟩ ⟨by omega, by omega⟩ ⟨by omega, by omega⟩)
theorem case_3 {p : Program} {e : Env} {s : State} {m : MethodId} {below : List Frame} {meth : Method} {c : Code} {l : Launch} {b : Nat} {xs : Nat → Int32} (C0 : lw_At p s m meth c b 4 xs) (hk : 3 ≤ (xs 0 &&& 63).toInt ∧ (xs 0 &&& 63).toInt ≤ 3) : W p l e room_1 s m #[Value.ref b] below meth c s.heap [] 0 0 (lw_Z below #[Value.ref b] s) (entryFrame m ([Value.ref b] : List Value).toArray 4) := by
  have r1 := (xs 1).toInt_lt
  have r2 := (xs 1).le_toInt
  have r3 := (xs 2).toInt_lt
  have r4 := (xs 2).le_toInt
  have r5 := (xs 3).toInt_lt
  have r6 := (xs 3).le_toInt
  exact fin_bx l (by decide) C0 b_3_0 (iv5 hk ⟨by omega, by omega⟩ ⟨by omega, by omega⟩ ⟨by omega, by omega⟩)
theorem case_4 {p : Program} {e : Env} {s : State} {m : MethodId} {below : List Frame} {meth : Method} {c : Code} {l : Launch} {b : Nat} {xs : Nat → Int32} (C0 : lw_At p s m meth c b 4 xs) (hk : 4 ≤ (xs 0 &&& 63).toInt ∧ (xs 0 &&& 63).toInt ≤ 4) : W p l e room_1 s m #[Value.ref b] below meth c s.heap [] 0 0 (lw_Z below #[Value.ref b] s) (entryFrame m ([Value.ref b] : List Value).toArray 4) := by
  have r1 := (xs 1).toInt_lt
  have r2 := (xs 1).le_toInt
  have r3 := (xs 2).toInt_lt
  have r4 := (xs 2).le_toInt
  have r5 := (xs 3).toInt_lt
  have r6 := (xs 3).le_toInt
  exact fin_bx l (by decide) C0 b_4_0 (iv5 hk ⟨by omega, by omega⟩ ⟨by omega, by omega⟩ ⟨by omega, by omega⟩)
theorem case_5 {p : Program} {e : Env} {s : State} {m : MethodId} {below : List Frame} {meth : Method} {c : Code} {l : Launch} {b : Nat} {xs : Nat → Int32} (C0 : lw_At p s m meth c b 4 xs) (hk : 5 ≤ (xs 0 &&& 63).toInt ∧ (xs 0 &&& 63).toInt ≤ 5) : W p l e room_1 s m #[Value.ref b] below meth c s.heap [] 0 0 (lw_Z below #[Value.ref b] s) (entryFrame m ([Value.ref b] : List Value).toArray 4) := by
  have r1 := (xs 1).toInt_lt
  have r2 := (xs 1).le_toInt
  have r3 := (xs 2).toInt_lt
  have r4 := (xs 2).le_toInt
  have r5 := (xs 3).toInt_lt
  have r6 := (xs 3).le_toInt
  rcases Int.lt_or_le (xs 1).toInt (0) with h | h
  · exact fin_bx l (by decide) C0 b_5_0 (iv5 hk ⟨by omega, by omega⟩ ⟨by omega, by omega⟩ ⟨by omega, by omega⟩)
  · skip
    rcases Int.lt_or_le (xs 1).toInt (1) with h | h
    · rcases Int.lt_or_le (xs 2).toInt (0) with h | h
      · exact fin_bx l (by decide) C0 b_5_1 (iv5 hk ⟨by omega, by omega⟩ ⟨by omega, by omega⟩ ⟨by omega, by omega⟩)
      · skip
        rcases Int.lt_or_le (xs 2).toInt (7) with h | h
        · rcases Int.lt_or_le (xs 2).toInt (1) with h | h
          · exact fin_bx l (by decide) C0 b_5_2 (iv5 hk ⟨by omega, by omega⟩ ⟨by omega, by omega⟩ ⟨by omega, by omega⟩)
          · skip
            rcases Int.lt_or_le (xs 2).toInt (2) with h | h
            · exact fin_bx l (by decide) C0 b_5_3 (iv5 hk ⟨by omega, by omega⟩ ⟨by omega, by omega⟩ ⟨by omega, by omega⟩)
            · skip
              rcases Int.lt_or_le (xs 2).toInt (3) with h | h
              · exact fin_bx l (by decide) C0 b_5_4 (iv5 hk ⟨by omega, by omega⟩ ⟨by omega, by omega⟩ ⟨by omega, by omega⟩)
              · skip
                rcases Int.lt_or_le (xs 2).toInt (4) with h | h
                · exact fin_bx l (by decide) C0 b_5_5 (iv5 hk ⟨by omega, by omega⟩ ⟨by omega, by omega⟩ ⟨by omega, by omega⟩)
                · skip
                  rcases Int.lt_or_le (xs 2).toInt (5) with h | h
                  · exact fin_bx l (by decide) C0 b_5_6 (iv5 hk ⟨by omega, by omega⟩ ⟨by omega, by omega⟩ ⟨by omega, by omega⟩)
                  · skip
                    rcases Int.lt_or_le (xs 2).toInt (6) with h | h
                    · exact fin_bx l (by decide) C0 b_5_7 (iv5 hk ⟨by omega, by omega⟩ ⟨by omega, by omega⟩ ⟨by omega, by omega⟩)
                    · skip
                      exact fin_bx l (by decide) C0 b_5_8 (iv5 hk ⟨by omega, by omega⟩ ⟨by omega, by omega⟩ ⟨by omega, by omega⟩)
        · skip
          exact fin_bx l (by decide) C0 b_5_9 (iv5 hk ⟨by omega, by omega⟩ ⟨by omega, by omega⟩ ⟨by omega, by omega⟩)
    · skip
      exact fin_bx l (by decide) C0 b_5_10 (iv5 hk ⟨by omega, by omega⟩ ⟨by omega, by omega⟩ ⟨by omega, by omega⟩)
theorem case_6 {p : Program} {e : Env} {s : State} {m : MethodId} {below : List Frame} {meth : Method} {c : Code} {l : Launch} {b : Nat} {xs : Nat → Int32} (C0 : lw_At p s m meth c b 4 xs) (hk : 6 ≤ (xs 0 &&& 63).toInt ∧ (xs 0 &&& 63).toInt ≤ 6) : W p l e room_1 s m #[Value.ref b] below meth c s.heap [] 0 0 (lw_Z below #[Value.ref b] s) (entryFrame m ([Value.ref b] : List Value).toArray 4) := by
  have r1 := (xs 1).toInt_lt
  have r2 := (xs 1).le_toInt
  have r3 := (xs 2).toInt_lt
  have r4 := (xs 2).le_toInt
  have r5 := (xs 3).toInt_lt
  have r6 := (xs 3).le_toInt
  rcases Int.lt_or_le (xs 1).toInt (0) with h | h
  · exact fin_bx l (by decide) C0 b_6_0 (iv5 hk ⟨by omega, by omega⟩ ⟨by omega, by omega⟩ ⟨by omega, by omega⟩)
  · skip
    rcases Int.lt_or_le (xs 1).toInt (1) with h | h
    · rcases Int.lt_or_le (xs 2).toInt (0) with h | h
      · exact fin_bx l (by decide) C0 b_6_1 (iv5 hk ⟨by omega, by omega⟩ ⟨by omega, by omega⟩ ⟨by omega, by omega⟩)
      · skip
        exact fin_bx l (by decide) C0 b_6_2 (iv5 hk ⟨by omega, by omega⟩ ⟨by omega, by omega⟩ ⟨by omega, by omega⟩)
    · skip
      exact fin_bx l (by decide) C0 b_6_3 (iv5 hk ⟨by omega, by omega⟩ ⟨by omega, by omega⟩ ⟨by omega, by omega⟩)
theorem case_7 {p : Program} {e : Env} {s : State} {m : MethodId} {below : List Frame} {meth : Method} {c : Code} {l : Launch} {b : Nat} {xs : Nat → Int32} (C0 : lw_At p s m meth c b 4 xs) (hk : 7 ≤ (xs 0 &&& 63).toInt ∧ (xs 0 &&& 63).toInt ≤ 7) : W p l e room_1 s m #[Value.ref b] below meth c s.heap [] 0 0 (lw_Z below #[Value.ref b] s) (entryFrame m ([Value.ref b] : List Value).toArray 4) := by
  have r1 := (xs 1).toInt_lt
  have r2 := (xs 1).le_toInt
  have r3 := (xs 2).toInt_lt
  have r4 := (xs 2).le_toInt
  have r5 := (xs 3).toInt_lt
  have r6 := (xs 3).le_toInt
  rcases Int.lt_or_le (xs 2).toInt (0) with h | h
  · rcases Int.lt_or_le (xs 1).toInt (0) with h | h
    · exact fin_bx l (by decide) C0 b_7_0 (iv5 hk ⟨by omega, by omega⟩ ⟨by omega, by omega⟩ ⟨by omega, by omega⟩)
    · skip
      rcases Int.lt_or_le (xs 1).toInt (1) with h | h
      · rcases Int.lt_or_le (xs 3).toInt (0) with h | h
        · exact fin_bx l (by decide) C0 b_7_1 (iv5 hk ⟨by omega, by omega⟩ ⟨by omega, by omega⟩ ⟨by omega, by omega⟩)
        · skip
          exact fin_bx l (by decide) C0 b_7_2 (iv5 hk ⟨by omega, by omega⟩ ⟨by omega, by omega⟩ ⟨by omega, by omega⟩)
      · skip
        exact fin_bx l (by decide) C0 b_7_3 (iv5 hk ⟨by omega, by omega⟩ ⟨by omega, by omega⟩ ⟨by omega, by omega⟩)
  · skip
    rcases Int.lt_or_le (xs 2).toInt (1) with h | h
    · rcases Int.lt_or_le (xs 1).toInt (0) with h | h
      · exact fin_bx l (by decide) C0 b_7_4 (iv5 hk ⟨by omega, by omega⟩ ⟨by omega, by omega⟩ ⟨by omega, by omega⟩)
      · skip
        rcases Int.lt_or_le (xs 1).toInt (1) with h | h
        · rcases Int.lt_or_le (xs 3).toInt (0) with h | h
          · exact fin_bx l (by decide) C0 b_7_5 (iv5 hk ⟨by omega, by omega⟩ ⟨by omega, by omega⟩ ⟨by omega, by omega⟩)
          · skip
            rcases Int.lt_or_le (xs 3).toInt (1) with h | h
            · exact fin_bx l (by decide) C0 b_7_6 (iv5 hk ⟨by omega, by omega⟩ ⟨by omega, by omega⟩ ⟨by omega, by omega⟩)
            · skip
              exact fin_bx l (by decide) C0 b_7_7 (iv5 hk ⟨by omega, by omega⟩ ⟨by omega, by omega⟩ ⟨by omega, by omega⟩)
        · skip
          exact fin_bx l (by decide) C0 b_7_8 (iv5 hk ⟨by omega, by omega⟩ ⟨by omega, by omega⟩ ⟨by omega, by omega⟩)
    · skip
      rcases Int.lt_or_le (xs 1).toInt (0) with h | h
      · exact fin_bx l (by decide) C0 b_7_9 (iv5 hk ⟨by omega, by omega⟩ ⟨by omega, by omega⟩ ⟨by omega, by omega⟩)
      · skip
        rcases Int.lt_or_le (xs 1).toInt (1) with h | h
        · rcases Int.lt_or_le (xs 3).toInt (0) with h | h
          · exact fin_bx l (by decide) C0 b_7_10 (iv5 hk ⟨by omega, by omega⟩ ⟨by omega, by omega⟩ ⟨by omega, by omega⟩)
          · skip
            exact fin_bx l (by decide) C0 b_7_11 (iv5 hk ⟨by omega, by omega⟩ ⟨by omega, by omega⟩ ⟨by omega, by omega⟩)
        · skip
          exact fin_bx l (by decide) C0 b_7_12 (iv5 hk ⟨by omega, by omega⟩ ⟨by omega, by omega⟩ ⟨by omega, by omega⟩)
theorem case_8 {p : Program} {e : Env} {s : State} {m : MethodId} {below : List Frame} {meth : Method} {c : Code} {l : Launch} {b : Nat} {xs : Nat → Int32} (C0 : lw_At p s m meth c b 4 xs) (hk : 8 ≤ (xs 0 &&& 63).toInt ∧ (xs 0 &&& 63).toInt ≤ 8) : W p l e room_1 s m #[Value.ref b] below meth c s.heap [] 0 0 (lw_Z below #[Value.ref b] s) (entryFrame m ([Value.ref b] : List Value).toArray 4) := by
  have r1 := (xs 1).toInt_lt
  have r2 := (xs 1).le_toInt
  have r3 := (xs 2).toInt_lt
  have r4 := (xs 2).le_toInt
  have r5 := (xs 3).toInt_lt
  have r6 := (xs 3).le_toInt
  rcases Int.lt_or_le (xs 2).toInt (0) with h | h
  · rcases Int.lt_or_le (xs 1).toInt (0) with h | h
    · exact fin_bx l (by decide) C0 b_8_0 (iv5 hk ⟨by omega, by omega⟩ ⟨by omega, by omega⟩ ⟨by omega, by omega⟩)
    · skip
      exact fin_bx l (by decide) C0 b_8_1 (iv5 hk ⟨by omega, by omega⟩ ⟨by omega, by omega⟩ ⟨by omega, by omega⟩)
  · skip
    rcases Int.lt_or_le (xs 2).toInt (1) with h | h
    · rcases Int.lt_or_le (xs 1).toInt (0) with h | h
      · exact fin_bx l (by decide) C0 b_8_2 (iv5 hk ⟨by omega, by omega⟩ ⟨by omega, by omega⟩ ⟨by omega, by omega⟩)
      · skip
        rcases Int.lt_or_le (xs 1).toInt (1) with h | h
        · exact fin_bx l (by decide) C0 b_8_3 (iv5 hk ⟨by omega, by omega⟩ ⟨by omega, by omega⟩ ⟨by omega, by omega⟩)
        · skip
          exact fin_bx l (by decide) C0 b_8_4 (iv5 hk ⟨by omega, by omega⟩ ⟨by omega, by omega⟩ ⟨by omega, by omega⟩)
    · skip
      rcases Int.lt_or_le (xs 1).toInt (0) with h | h
      · exact fin_bx l (by decide) C0 b_8_5 (iv5 hk ⟨by omega, by omega⟩ ⟨by omega, by omega⟩ ⟨by omega, by omega⟩)
      · skip
        exact fin_bx l (by decide) C0 b_8_6 (iv5 hk ⟨by omega, by omega⟩ ⟨by omega, by omega⟩ ⟨by omega, by omega⟩)
theorem case_9 {p : Program} {e : Env} {s : State} {m : MethodId} {below : List Frame} {meth : Method} {c : Code} {l : Launch} {b : Nat} {xs : Nat → Int32} (C0 : lw_At p s m meth c b 4 xs) (hk : 9 ≤ (xs 0 &&& 63).toInt ∧ (xs 0 &&& 63).toInt ≤ 9) : W p l e room_1 s m #[Value.ref b] below meth c s.heap [] 0 0 (lw_Z below #[Value.ref b] s) (entryFrame m ([Value.ref b] : List Value).toArray 4) := by
  have r1 := (xs 1).toInt_lt
  have r2 := (xs 1).le_toInt
  have r3 := (xs 2).toInt_lt
  have r4 := (xs 2).le_toInt
  have r5 := (xs 3).toInt_lt
  have r6 := (xs 3).le_toInt
  rcases Int.lt_or_le (xs 1).toInt (0) with h | h
  · exact fin_bx l (by decide) C0 b_9_0 (iv5 hk ⟨by omega, by omega⟩ ⟨by omega, by omega⟩ ⟨by omega, by omega⟩)
  · skip
    rcases Int.lt_or_le (xs 1).toInt (6) with h | h
    · rcases Int.lt_or_le (xs 1).toInt (5) with h | h
      · rcases Int.lt_or_le (xs 1).toInt (1) with h | h
        · exact fin_bx l (by decide) C0 b_9_1 (iv5 hk ⟨by omega, by omega⟩ ⟨by omega, by omega⟩ ⟨by omega, by omega⟩)
        · skip
          rcases Int.lt_or_le (xs 1).toInt (2) with h | h
          · exact fin_bx l (by decide) C0 b_9_2 (iv5 hk ⟨by omega, by omega⟩ ⟨by omega, by omega⟩ ⟨by omega, by omega⟩)
          · skip
            rcases Int.lt_or_le (xs 1).toInt (3) with h | h
            · exact fin_bx l (by decide) C0 b_9_3 (iv5 hk ⟨by omega, by omega⟩ ⟨by omega, by omega⟩ ⟨by omega, by omega⟩)
            · skip
              rcases Int.lt_or_le (xs 1).toInt (4) with h | h
              · exact fin_bx l (by decide) C0 b_9_4 (iv5 hk ⟨by omega, by omega⟩ ⟨by omega, by omega⟩ ⟨by omega, by omega⟩)
              · skip
                exact fin_bx l (by decide) C0 b_9_5 (iv5 hk ⟨by omega, by omega⟩ ⟨by omega, by omega⟩ ⟨by omega, by omega⟩)
      · skip
        exact fin_bx l (by decide) C0 b_9_6 (iv5 hk ⟨by omega, by omega⟩ ⟨by omega, by omega⟩ ⟨by omega, by omega⟩)
    · skip
      exact fin_bx l (by decide) C0 b_9_7 (iv5 hk ⟨by omega, by omega⟩ ⟨by omega, by omega⟩ ⟨by omega, by omega⟩)
theorem case_10 {p : Program} {e : Env} {s : State} {m : MethodId} {below : List Frame} {meth : Method} {c : Code} {l : Launch} {b : Nat} {xs : Nat → Int32} (C0 : lw_At p s m meth c b 4 xs) (hk : 10 ≤ (xs 0 &&& 63).toInt ∧ (xs 0 &&& 63).toInt ≤ 10) : W p l e room_1 s m #[Value.ref b] below meth c s.heap [] 0 0 (lw_Z below #[Value.ref b] s) (entryFrame m ([Value.ref b] : List Value).toArray 4) := by
  have r1 := (xs 1).toInt_lt
  have r2 := (xs 1).le_toInt
  have r3 := (xs 2).toInt_lt
  have r4 := (xs 2).le_toInt
  have r5 := (xs 3).toInt_lt
  have r6 := (xs 3).le_toInt
  rcases Int.lt_or_le (xs 1).toInt (0) with h | h
  · exact fin_bx l (by decide) C0 b_10_0 (iv5 hk ⟨by omega, by omega⟩ ⟨by omega, by omega⟩ ⟨by omega, by omega⟩)
  · skip
    rcases Int.lt_or_le (xs 1).toInt (1) with h | h
    · exact fin_bx l (by decide) C0 b_10_1 (iv5 hk ⟨by omega, by omega⟩ ⟨by omega, by omega⟩ ⟨by omega, by omega⟩)
    · skip
      exact fin_bx l (by decide) C0 b_10_2 (iv5 hk ⟨by omega, by omega⟩ ⟨by omega, by omega⟩ ⟨by omega, by omega⟩)
theorem case_11 {p : Program} {e : Env} {s : State} {m : MethodId} {below : List Frame} {meth : Method} {c : Code} {l : Launch} {b : Nat} {xs : Nat → Int32} (C0 : lw_At p s m meth c b 4 xs) (hk : 11 ≤ (xs 0 &&& 63).toInt ∧ (xs 0 &&& 63).toInt ≤ 11) : W p l e room_1 s m #[Value.ref b] below meth c s.heap [] 0 0 (lw_Z below #[Value.ref b] s) (entryFrame m ([Value.ref b] : List Value).toArray 4) := by
  have r1 := (xs 1).toInt_lt
  have r2 := (xs 1).le_toInt
  have r3 := (xs 2).toInt_lt
  have r4 := (xs 2).le_toInt
  have r5 := (xs 3).toInt_lt
  have r6 := (xs 3).le_toInt
  rcases Int.lt_or_le (xs 1).toInt (0) with h | h
  · exact fin_bx l (by decide) C0 b_11_0 (iv5 hk ⟨by omega, by omega⟩ ⟨by omega, by omega⟩ ⟨by omega, by omega⟩)
  · skip
    rcases Int.lt_or_le (xs 1).toInt (16) with h | h
    · rcases Int.lt_or_le (xs 1).toInt (2) with h | h
      · rcases Int.lt_or_le (xs 1).toInt (1) with h | h
        · exact fin_bx l (by decide) C0 b_11_1 (iv5 hk ⟨by omega, by omega⟩ ⟨by omega, by omega⟩ ⟨by omega, by omega⟩)
        · skip
          exact fin_bx l (by decide) C0 b_11_2 (iv5 hk ⟨by omega, by omega⟩ ⟨by omega, by omega⟩ ⟨by omega, by omega⟩)
      · skip
        rcases Int.lt_or_le (xs 1).toInt (3) with h | h
        · rcases Int.lt_or_le (xs 2).toInt (0) with h | h
          · exact fin_bx l (by decide) C0 b_11_3 (iv5 hk ⟨by omega, by omega⟩ ⟨by omega, by omega⟩ ⟨by omega, by omega⟩)
          · skip
            rcases Int.lt_or_le (xs 2).toInt (1) with h | h
            · exact fin_bx l (by decide) C0 b_11_4 (iv5 hk ⟨by omega, by omega⟩ ⟨by omega, by omega⟩ ⟨by omega, by omega⟩)
            · skip
              rcases Int.lt_or_le (xs 2).toInt (2) with h | h
              · exact fin_bx l (by decide) C0 b_11_5 (iv5 hk ⟨by omega, by omega⟩ ⟨by omega, by omega⟩ ⟨by omega, by omega⟩)
              · skip
                exact fin_bx l (by decide) C0 b_11_6 (iv5 hk ⟨by omega, by omega⟩ ⟨by omega, by omega⟩ ⟨by omega, by omega⟩)
        · skip
          rcases Int.lt_or_le (xs 1).toInt (4) with h | h
          · rcases Int.lt_or_le (xs 2).toInt (0) with h | h
            · exact fin_bx l (by decide) C0 b_11_7 (iv5 hk ⟨by omega, by omega⟩ ⟨by omega, by omega⟩ ⟨by omega, by omega⟩)
            · skip
              rcases Int.lt_or_le (xs 2).toInt (26) with h | h
              · exact fin_bx l (by decide) C0 b_11_8 (iv5 hk ⟨by omega, by omega⟩ ⟨by omega, by omega⟩ ⟨by omega, by omega⟩)
              · skip
                exact fin_bx l (by decide) C0 b_11_9 (iv5 hk ⟨by omega, by omega⟩ ⟨by omega, by omega⟩ ⟨by omega, by omega⟩)
          · skip
            rcases Int.lt_or_le (xs 1).toInt (8) with h | h
            · rcases Int.lt_or_le (xs 1).toInt (5) with h | h
              · exact fin_bx l (by decide) C0 b_11_10 (iv5 hk ⟨by omega, by omega⟩ ⟨by omega, by omega⟩ ⟨by omega, by omega⟩)
              · skip
                rcases Int.lt_or_le (xs 1).toInt (6) with h | h
                · exact fin_bx l (by decide) C0 b_11_11 (iv5 hk ⟨by omega, by omega⟩ ⟨by omega, by omega⟩ ⟨by omega, by omega⟩)
                · skip
                  rcases Int.lt_or_le (xs 1).toInt (7) with h | h
                  · exact fin_bx l (by decide) C0 b_11_12 (iv5 hk ⟨by omega, by omega⟩ ⟨by omega, by omega⟩ ⟨by omega, by omega⟩)
                  · skip
                    exact fin_bx l (by decide) C0 b_11_13 (iv5 hk ⟨by omega, by omega⟩ ⟨by omega, by omega⟩ ⟨by omega, by omega⟩)
            · skip
              rcases Int.lt_or_le (xs 1).toInt (9) with h | h
              · rcases Int.lt_or_le (xs 2).toInt (0) with h | h
                · exact fin_bx l (by decide) C0 b_11_14 (iv5 hk ⟨by omega, by omega⟩ ⟨by omega, by omega⟩ ⟨by omega, by omega⟩)
                · skip
                  rcases Int.lt_or_le (xs 2).toInt (26) with h | h
                  · rcases Int.lt_or_le (xs 3).toInt (0) with h | h
                    · exact fin_bx l (by decide) C0 b_11_15 (iv5 hk ⟨by omega, by omega⟩ ⟨by omega, by omega⟩ ⟨by omega, by omega⟩)
                    · skip
                      rcases Int.lt_or_le (xs 3).toInt (3) with h | h
                      · rcases Int.lt_or_le (xs 3).toInt (1) with h | h
                        · exact fin_bx l (by decide) C0 b_11_16 (iv5 hk ⟨by omega, by omega⟩ ⟨by omega, by omega⟩ ⟨by omega, by omega⟩)
                        · skip
                          rcases Int.lt_or_le (xs 3).toInt (2) with h | h
                          · exact fin_bx l (by decide) C0 b_11_17 (iv5 hk ⟨by omega, by omega⟩ ⟨by omega, by omega⟩ ⟨by omega, by omega⟩)
                          · skip
                            exact fin_bx l (by decide) C0 b_11_18 (iv5 hk ⟨by omega, by omega⟩ ⟨by omega, by omega⟩ ⟨by omega, by omega⟩)
                      · skip
                        exact fin_bx l (by decide) C0 b_11_19 (iv5 hk ⟨by omega, by omega⟩ ⟨by omega, by omega⟩ ⟨by omega, by omega⟩)
                  · skip
                    exact fin_bx l (by decide) C0 b_11_20 (iv5 hk ⟨by omega, by omega⟩ ⟨by omega, by omega⟩ ⟨by omega, by omega⟩)
              · skip
                rcases Int.lt_or_le (xs 1).toInt (10) with h | h
                · exact fin_bx l (by decide) C0 b_11_21 (iv5 hk ⟨by omega, by omega⟩ ⟨by omega, by omega⟩ ⟨by omega, by omega⟩)
                · skip
                  rcases Int.lt_or_le (xs 1).toInt (11) with h | h
                  · rcases Int.lt_or_le (xs 2).toInt (0) with h | h
                    · exact fin_bx l (by decide) C0 b_11_22 (iv5 hk ⟨by omega, by omega⟩ ⟨by omega, by omega⟩ ⟨by omega, by omega⟩)
                    · skip
                      rcases Int.lt_or_le (xs 2).toInt (26) with h | h
                      · exact fin_bx l (by decide) C0 b_11_23 (iv5 hk ⟨by omega, by omega⟩ ⟨by omega, by omega⟩ ⟨by omega, by omega⟩)
                      · skip
                        exact fin_bx l (by decide) C0 b_11_24 (iv5 hk ⟨by omega, by omega⟩ ⟨by omega, by omega⟩ ⟨by omega, by omega⟩)
                  · skip
                    rcases Int.lt_or_le (xs 1).toInt (15) with h | h
                    · rcases Int.lt_or_le (xs 1).toInt (12) with h | h
                      · exact fin_bx l (by decide) C0 b_11_25 (iv5 hk ⟨by omega, by omega⟩ ⟨by omega, by omega⟩ ⟨by omega, by omega⟩)
                      · skip
                        rcases Int.lt_or_le (xs 1).toInt (13) with h | h
                        · exact fin_bx l (by decide) C0 b_11_26 (iv5 hk ⟨by omega, by omega⟩ ⟨by omega, by omega⟩ ⟨by omega, by omega⟩)
                        · skip
                          rcases Int.lt_or_le (xs 1).toInt (14) with h | h
                          · exact fin_bx l (by decide) C0 b_11_27 (iv5 hk ⟨by omega, by omega⟩ ⟨by omega, by omega⟩ ⟨by omega, by omega⟩)
                          · skip
                            exact fin_bx l (by decide) C0 b_11_28 (iv5 hk ⟨by omega, by omega⟩ ⟨by omega, by omega⟩ ⟨by omega, by omega⟩)
                    · skip
                      rcases Int.lt_or_le (xs 3).toInt (0) with h | h
                      · exact fin_bx l (by decide) C0 b_11_29 (iv5 hk ⟨by omega, by omega⟩ ⟨by omega, by omega⟩ ⟨by omega, by omega⟩)
                      · skip
                        rcases Int.lt_or_le (xs 3).toInt (3) with h | h
                        · rcases Int.lt_or_le (xs 3).toInt (1) with h | h
                          · exact fin_bx l (by decide) C0 b_11_30 (iv5 hk ⟨by omega, by omega⟩ ⟨by omega, by omega⟩ ⟨by omega, by omega⟩)
                          · skip
                            rcases Int.lt_or_le (xs 3).toInt (2) with h | h
                            · exact fin_bx l (by decide) C0 b_11_31 (iv5 hk ⟨by omega, by omega⟩ ⟨by omega, by omega⟩ ⟨by omega, by omega⟩)
                            · skip
                              exact fin_bx l (by decide) C0 b_11_32 (iv5 hk ⟨by omega, by omega⟩ ⟨by omega, by omega⟩ ⟨by omega, by omega⟩)
                        · skip
                          exact fin_bx l (by decide) C0 b_11_33 (iv5 hk ⟨by omega, by omega⟩ ⟨by omega, by omega⟩ ⟨by omega, by omega⟩)
    · skip
      exact fin_bx l (by decide) C0 b_11_34 (iv5 hk ⟨by omega, by omega⟩ ⟨by omega, by omega⟩ ⟨by omega, by omega⟩)
theorem case_12 {p : Program} {e : Env} {s : State} {m : MethodId} {below : List Frame} {meth : Method} {c : Code} {l : Launch} {b : Nat} {xs : Nat → Int32} (C0 : lw_At p s m meth c b 4 xs) (hk : 12 ≤ (xs 0 &&& 63).toInt ∧ (xs 0 &&& 63).toInt ≤ 12) : W p l e room_1 s m #[Value.ref b] below meth c s.heap [] 0 0 (lw_Z below #[Value.ref b] s) (entryFrame m ([Value.ref b] : List Value).toArray 4) := by
  have r1 := (xs 1).toInt_lt
  have r2 := (xs 1).le_toInt
  have r3 := (xs 2).toInt_lt
  have r4 := (xs 2).le_toInt
  have r5 := (xs 3).toInt_lt
  have r6 := (xs 3).le_toInt
  exact fin_bx l (by decide) C0 b_12_0 (iv5 hk ⟨by omega, by omega⟩ ⟨by omega, by omega⟩ ⟨by omega, by omega⟩)
theorem case_13 {p : Program} {e : Env} {s : State} {m : MethodId} {below : List Frame} {meth : Method} {c : Code} {l : Launch} {b : Nat} {xs : Nat → Int32} (C0 : lw_At p s m meth c b 4 xs) (hk : 13 ≤ (xs 0 &&& 63).toInt ∧ (xs 0 &&& 63).toInt ≤ 13) : W p l e room_1 s m #[Value.ref b] below meth c s.heap [] 0 0 (lw_Z below #[Value.ref b] s) (entryFrame m ([Value.ref b] : List Value).toArray 4) := by
  have r1 := (xs 1).toInt_lt
  have r2 := (xs 1).le_toInt
  have r3 := (xs 2).toInt_lt
  have r4 := (xs 2).le_toInt
  have r5 := (xs 3).toInt_lt
  have r6 := (xs 3).le_toInt
  exact fin_bx l (by decide) C0 b_13_0 (iv5 hk ⟨by omega, by omega⟩ ⟨by omega, by omega⟩ ⟨by omega, by omega⟩)
theorem case_14 {p : Program} {e : Env} {s : State} {m : MethodId} {below : List Frame} {meth : Method} {c : Code} {l : Launch} {b : Nat} {xs : Nat → Int32} (C0 : lw_At p s m meth c b 4 xs) (hk : 14 ≤ (xs 0 &&& 63).toInt ∧ (xs 0 &&& 63).toInt ≤ 14) : W p l e room_1 s m #[Value.ref b] below meth c s.heap [] 0 0 (lw_Z below #[Value.ref b] s) (entryFrame m ([Value.ref b] : List Value).toArray 4) := by
  have r1 := (xs 1).toInt_lt
  have r2 := (xs 1).le_toInt
  have r3 := (xs 2).toInt_lt
  have r4 := (xs 2).le_toInt
  have r5 := (xs 3).toInt_lt
  have r6 := (xs 3).le_toInt
  exact fin_bx l (by decide) C0 b_14_0 (iv5 hk ⟨by omega, by omega⟩ ⟨by omega, by omega⟩ ⟨by omega, by omega⟩)
theorem case_15 {p : Program} {e : Env} {s : State} {m : MethodId} {below : List Frame} {meth : Method} {c : Code} {l : Launch} {b : Nat} {xs : Nat → Int32} (C0 : lw_At p s m meth c b 4 xs) (hk : 15 ≤ (xs 0 &&& 63).toInt ∧ (xs 0 &&& 63).toInt ≤ 15) : W p l e room_1 s m #[Value.ref b] below meth c s.heap [] 0 0 (lw_Z below #[Value.ref b] s) (entryFrame m ([Value.ref b] : List Value).toArray 4) := by
  have r1 := (xs 1).toInt_lt
  have r2 := (xs 1).le_toInt
  have r3 := (xs 2).toInt_lt
  have r4 := (xs 2).le_toInt
  have r5 := (xs 3).toInt_lt
  have r6 := (xs 3).le_toInt
  rcases Int.lt_or_le (xs 1).toInt (0) with h | h
  · exact fin_bx l (by decide) C0 b_15_0 (iv5 hk ⟨by omega, by omega⟩ ⟨by omega, by omega⟩ ⟨by omega, by omega⟩)
  · skip
    rcases Int.lt_or_le (xs 1).toInt (26) with h | h
    · exact fin_bx l (by decide) C0 b_15_1 (iv5 hk ⟨by omega, by omega⟩ ⟨by omega, by omega⟩ ⟨by omega, by omega⟩)
    · skip
      exact fin_bx l (by decide) C0 b_15_2 (iv5 hk ⟨by omega, by omega⟩ ⟨by omega, by omega⟩ ⟨by omega, by omega⟩)
theorem case_16 {p : Program} {e : Env} {s : State} {m : MethodId} {below : List Frame} {meth : Method} {c : Code} {l : Launch} {b : Nat} {xs : Nat → Int32} (C0 : lw_At p s m meth c b 4 xs) (hk : 16 ≤ (xs 0 &&& 63).toInt ∧ (xs 0 &&& 63).toInt ≤ 16) : W p l e room_1 s m #[Value.ref b] below meth c s.heap [] 0 0 (lw_Z below #[Value.ref b] s) (entryFrame m ([Value.ref b] : List Value).toArray 4) := by
  have r1 := (xs 1).toInt_lt
  have r2 := (xs 1).le_toInt
  have r3 := (xs 2).toInt_lt
  have r4 := (xs 2).le_toInt
  have r5 := (xs 3).toInt_lt
  have r6 := (xs 3).le_toInt
  rcases Int.lt_or_le (xs 1).toInt (0) with h | h
  · exact fin_bx l (by decide) C0 b_16_0 (iv5 hk ⟨by omega, by omega⟩ ⟨by omega, by omega⟩ ⟨by omega, by omega⟩)
  · skip
    rcases Int.lt_or_le (xs 1).toInt (1) with h | h
    · exact fin_bx l (by decide) C0 b_16_1 (iv5 hk ⟨by omega, by omega⟩ ⟨by omega, by omega⟩ ⟨by omega, by omega⟩)
    · skip
      exact fin_bx l (by decide) C0 b_16_2 (iv5 hk ⟨by omega, by omega⟩ ⟨by omega, by omega⟩ ⟨by omega, by omega⟩)
theorem case_17 {p : Program} {e : Env} {s : State} {m : MethodId} {below : List Frame} {meth : Method} {c : Code} {l : Launch} {b : Nat} {xs : Nat → Int32} (C0 : lw_At p s m meth c b 4 xs) (hk : 17 ≤ (xs 0 &&& 63).toInt ∧ (xs 0 &&& 63).toInt ≤ 17) : W p l e room_1 s m #[Value.ref b] below meth c s.heap [] 0 0 (lw_Z below #[Value.ref b] s) (entryFrame m ([Value.ref b] : List Value).toArray 4) := by
  have r1 := (xs 1).toInt_lt
  have r2 := (xs 1).le_toInt
  have r3 := (xs 2).toInt_lt
  have r4 := (xs 2).le_toInt
  have r5 := (xs 3).toInt_lt
  have r6 := (xs 3).le_toInt
  rcases Int.lt_or_le (xs 1).toInt (0) with h | h
  · exact fin_bx l (by decide) C0 b_17_0 (iv5 hk ⟨by omega, by omega⟩ ⟨by omega, by omega⟩ ⟨by omega, by omega⟩)
  · skip
    rcases Int.lt_or_le (xs 1).toInt (6) with h | h
    · rcases Int.lt_or_le (xs 1).toInt (1) with h | h
      · exact fin_bx l (by decide) C0 b_17_1 (iv5 hk ⟨by omega, by omega⟩ ⟨by omega, by omega⟩ ⟨by omega, by omega⟩)
      · skip
        rcases Int.lt_or_le (xs 1).toInt (2) with h | h
        · exact fin_bx l (by decide) C0 b_17_2 (iv5 hk ⟨by omega, by omega⟩ ⟨by omega, by omega⟩ ⟨by omega, by omega⟩)
        · skip
          rcases Int.lt_or_le (xs 1).toInt (3) with h | h
          · exact fin_bx l (by decide) C0 b_17_3 (iv5 hk ⟨by omega, by omega⟩ ⟨by omega, by omega⟩ ⟨by omega, by omega⟩)
          · skip
            rcases Int.lt_or_le (xs 1).toInt (4) with h | h
            · exact fin_bx l (by decide) C0 b_17_4 (iv5 hk ⟨by omega, by omega⟩ ⟨by omega, by omega⟩ ⟨by omega, by omega⟩)
            · skip
              rcases Int.lt_or_le (xs 1).toInt (5) with h | h
              · exact fin_bx l (by decide) C0 b_17_5 (iv5 hk ⟨by omega, by omega⟩ ⟨by omega, by omega⟩ ⟨by omega, by omega⟩)
              · skip
                exact fin_bx l (by decide) C0 b_17_6 (iv5 hk ⟨by omega, by omega⟩ ⟨by omega, by omega⟩ ⟨by omega, by omega⟩)
    · skip
      exact fin_bx l (by decide) C0 b_17_7 (iv5 hk ⟨by omega, by omega⟩ ⟨by omega, by omega⟩ ⟨by omega, by omega⟩)
theorem case_18 {p : Program} {e : Env} {s : State} {m : MethodId} {below : List Frame} {meth : Method} {c : Code} {l : Launch} {b : Nat} {xs : Nat → Int32} (C0 : lw_At p s m meth c b 4 xs) (hk : 18 ≤ (xs 0 &&& 63).toInt ∧ (xs 0 &&& 63).toInt ≤ 18) : W p l e room_1 s m #[Value.ref b] below meth c s.heap [] 0 0 (lw_Z below #[Value.ref b] s) (entryFrame m ([Value.ref b] : List Value).toArray 4) := by
  have r1 := (xs 1).toInt_lt
  have r2 := (xs 1).le_toInt
  have r3 := (xs 2).toInt_lt
  have r4 := (xs 2).le_toInt
  have r5 := (xs 3).toInt_lt
  have r6 := (xs 3).le_toInt
  rcases Int.lt_or_le (xs 1).toInt (0) with h | h
  · exact fin_bx l (by decide) C0 b_18_0 (iv5 hk ⟨by omega, by omega⟩ ⟨by omega, by omega⟩ ⟨by omega, by omega⟩)
  · skip
    rcases Int.lt_or_le (xs 1).toInt (6) with h | h
    · rcases Int.lt_or_le (xs 1).toInt (1) with h | h
      · exact fin_bx l (by decide) C0 b_18_1 (iv5 hk ⟨by omega, by omega⟩ ⟨by omega, by omega⟩ ⟨by omega, by omega⟩)
      · skip
        rcases Int.lt_or_le (xs 1).toInt (2) with h | h
        · exact fin_bx l (by decide) C0 b_18_2 (iv5 hk ⟨by omega, by omega⟩ ⟨by omega, by omega⟩ ⟨by omega, by omega⟩)
        · skip
          rcases Int.lt_or_le (xs 1).toInt (3) with h | h
          · exact fin_bx l (by decide) C0 b_18_3 (iv5 hk ⟨by omega, by omega⟩ ⟨by omega, by omega⟩ ⟨by omega, by omega⟩)
          · skip
            rcases Int.lt_or_le (xs 1).toInt (4) with h | h
            · exact fin_bx l (by decide) C0 b_18_4 (iv5 hk ⟨by omega, by omega⟩ ⟨by omega, by omega⟩ ⟨by omega, by omega⟩)
            · skip
              rcases Int.lt_or_le (xs 1).toInt (5) with h | h
              · exact fin_bx l (by decide) C0 b_18_5 (iv5 hk ⟨by omega, by omega⟩ ⟨by omega, by omega⟩ ⟨by omega, by omega⟩)
              · skip
                exact fin_bx l (by decide) C0 b_18_6 (iv5 hk ⟨by omega, by omega⟩ ⟨by omega, by omega⟩ ⟨by omega, by omega⟩)
    · skip
      exact fin_bx l (by decide) C0 b_18_7 (iv5 hk ⟨by omega, by omega⟩ ⟨by omega, by omega⟩ ⟨by omega, by omega⟩)
theorem case_19 {p : Program} {e : Env} {s : State} {m : MethodId} {below : List Frame} {meth : Method} {c : Code} {l : Launch} {b : Nat} {xs : Nat → Int32} (C0 : lw_At p s m meth c b 4 xs) (hk : 19 ≤ (xs 0 &&& 63).toInt ∧ (xs 0 &&& 63).toInt ≤ 19) : W p l e room_1 s m #[Value.ref b] below meth c s.heap [] 0 0 (lw_Z below #[Value.ref b] s) (entryFrame m ([Value.ref b] : List Value).toArray 4) := by
  have r1 := (xs 1).toInt_lt
  have r2 := (xs 1).le_toInt
  have r3 := (xs 2).toInt_lt
  have r4 := (xs 2).le_toInt
  have r5 := (xs 3).toInt_lt
  have r6 := (xs 3).le_toInt
  exact fin_bx l (by decide) C0 b_19_0 (iv5 hk ⟨by omega, by omega⟩ ⟨by omega, by omega⟩ ⟨by omega, by omega⟩)
theorem case_20 {p : Program} {e : Env} {s : State} {m : MethodId} {below : List Frame} {meth : Method} {c : Code} {l : Launch} {b : Nat} {xs : Nat → Int32} (C0 : lw_At p s m meth c b 4 xs) (hk : 20 ≤ (xs 0 &&& 63).toInt ∧ (xs 0 &&& 63).toInt ≤ 20) : W p l e room_1 s m #[Value.ref b] below meth c s.heap [] 0 0 (lw_Z below #[Value.ref b] s) (entryFrame m ([Value.ref b] : List Value).toArray 4) := by
  have r1 := (xs 1).toInt_lt
  have r2 := (xs 1).le_toInt
  have r3 := (xs 2).toInt_lt
  have r4 := (xs 2).le_toInt
  have r5 := (xs 3).toInt_lt
  have r6 := (xs 3).le_toInt
  exact fin_bx l (by decide) C0 b_20_0 (iv5 hk ⟨by omega, by omega⟩ ⟨by omega, by omega⟩ ⟨by omega, by omega⟩)
theorem case_21 {p : Program} {e : Env} {s : State} {m : MethodId} {below : List Frame} {meth : Method} {c : Code} {l : Launch} {b : Nat} {xs : Nat → Int32} (C0 : lw_At p s m meth c b 4 xs) (hk : 21 ≤ (xs 0 &&& 63).toInt ∧ (xs 0 &&& 63).toInt ≤ 21) : W p l e room_1 s m #[Value.ref b] below meth c s.heap [] 0 0 (lw_Z below #[Value.ref b] s) (entryFrame m ([Value.ref b] : List Value).toArray 4) := by
  have r1 := (xs 1).toInt_lt
  have r2 := (xs 1).le_toInt
  have r3 := (xs 2).toInt_lt
  have r4 := (xs 2).le_toInt
  have r5 := (xs 3).toInt_lt
  have r6 := (xs 3).le_toInt
  rcases Int.lt_or_le (xs 2).toInt (0) with h | h
  · exact fin_bx l (by decide) C0 b_21_0 (iv5 hk ⟨by omega, by omega⟩ ⟨by omega, by omega⟩ ⟨by omega, by omega⟩)
  · skip
    rcases Int.lt_or_le (xs 2).toInt (1) with h | h
    · rcases Int.lt_or_le (xs 1).toInt (0) with h | h
      · exact fin_bx l (by decide) C0 b_21_1 (iv5 hk ⟨by omega, by omega⟩ ⟨by omega, by omega⟩ ⟨by omega, by omega⟩)
      · skip
        rcases Int.lt_or_le (xs 1).toInt (14) with h | h
        · rcases Int.lt_or_le (xs 1).toInt (1) with h | h
          · exact fin_bx l (by decide) C0 b_21_2 (iv5 hk ⟨by omega, by omega⟩ ⟨by omega, by omega⟩ ⟨by omega, by omega⟩)
          · skip
            rcases Int.lt_or_le (xs 1).toInt (2) with h | h
            · exact fin_bx l (by decide) C0 b_21_3 (iv5 hk ⟨by omega, by omega⟩ ⟨by omega, by omega⟩ ⟨by omega, by omega⟩)
            · skip
              rcases Int.lt_or_le (xs 1).toInt (3) with h | h
              · exact fin_bx l (by decide) C0 b_21_4 (iv5 hk ⟨by omega, by omega⟩ ⟨by omega, by omega⟩ ⟨by omega, by omega⟩)
              · skip
                rcases Int.lt_or_le (xs 1).toInt (4) with h | h
                · exact fin_bx l (by decide) C0 b_21_5 (iv5 hk ⟨by omega, by omega⟩ ⟨by omega, by omega⟩ ⟨by omega, by omega⟩)
                · skip
                  rcases Int.lt_or_le (xs 1).toInt (5) with h | h
                  · exact fin_bx l (by decide) C0 b_21_6 (iv5 hk ⟨by omega, by omega⟩ ⟨by omega, by omega⟩ ⟨by omega, by omega⟩)
                  · skip
                    rcases Int.lt_or_le (xs 1).toInt (6) with h | h
                    · exact fin_bx l (by decide) C0 b_21_7 (iv5 hk ⟨by omega, by omega⟩ ⟨by omega, by omega⟩ ⟨by omega, by omega⟩)
                    · skip
                      rcases Int.lt_or_le (xs 1).toInt (7) with h | h
                      · exact fin_bx l (by decide) C0 b_21_8 (iv5 hk ⟨by omega, by omega⟩ ⟨by omega, by omega⟩ ⟨by omega, by omega⟩)
                      · skip
                        rcases Int.lt_or_le (xs 1).toInt (8) with h | h
                        · exact fin_bx l (by decide) C0 b_21_9 (iv5 hk ⟨by omega, by omega⟩ ⟨by omega, by omega⟩ ⟨by omega, by omega⟩)
                        · skip
                          rcases Int.lt_or_le (xs 1).toInt (9) with h | h
                          · exact fin_bx l (by decide) C0 b_21_10 (iv5 hk ⟨by omega, by omega⟩ ⟨by omega, by omega⟩ ⟨by omega, by omega⟩)
                          · skip
                            rcases Int.lt_or_le (xs 1).toInt (10) with h | h
                            · exact fin_bx l (by decide) C0 b_21_11 (iv5 hk ⟨by omega, by omega⟩ ⟨by omega, by omega⟩ ⟨by omega, by omega⟩)
                            · skip
                              rcases Int.lt_or_le (xs 1).toInt (11) with h | h
                              · exact fin_bx l (by decide) C0 b_21_12 (iv5 hk ⟨by omega, by omega⟩ ⟨by omega, by omega⟩ ⟨by omega, by omega⟩)
                              · skip
                                rcases Int.lt_or_le (xs 1).toInt (12) with h | h
                                · exact fin_bx l (by decide) C0 b_21_13 (iv5 hk ⟨by omega, by omega⟩ ⟨by omega, by omega⟩ ⟨by omega, by omega⟩)
                                · skip
                                  rcases Int.lt_or_le (xs 1).toInt (13) with h | h
                                  · exact fin_bx l (by decide) C0 b_21_14 (iv5 hk ⟨by omega, by omega⟩ ⟨by omega, by omega⟩ ⟨by omega, by omega⟩)
                                  · skip
                                    exact fin_bx l (by decide) C0 b_21_15 (iv5 hk ⟨by omega, by omega⟩ ⟨by omega, by omega⟩ ⟨by omega, by omega⟩)
        · skip
          exact fin_bx l (by decide) C0 b_21_16 (iv5 hk ⟨by omega, by omega⟩ ⟨by omega, by omega⟩ ⟨by omega, by omega⟩)
    · skip
      rcases Int.lt_or_le (xs 2).toInt (2) with h | h
      · rcases Int.lt_or_le (xs 1).toInt (0) with h | h
        · exact fin_bx l (by decide) C0 b_21_17 (iv5 hk ⟨by omega, by omega⟩ ⟨by omega, by omega⟩ ⟨by omega, by omega⟩)
        · skip
          rcases Int.lt_or_le (xs 1).toInt (14) with h | h
          · rcases Int.lt_or_le (xs 1).toInt (1) with h | h
            · exact fin_bx l (by decide) C0 b_21_18 (iv5 hk ⟨by omega, by omega⟩ ⟨by omega, by omega⟩ ⟨by omega, by omega⟩)
            · skip
              rcases Int.lt_or_le (xs 1).toInt (2) with h | h
              · exact fin_bx l (by decide) C0 b_21_19 (iv5 hk ⟨by omega, by omega⟩ ⟨by omega, by omega⟩ ⟨by omega, by omega⟩)
              · skip
                rcases Int.lt_or_le (xs 1).toInt (3) with h | h
                · exact fin_bx l (by decide) C0 b_21_20 (iv5 hk ⟨by omega, by omega⟩ ⟨by omega, by omega⟩ ⟨by omega, by omega⟩)
                · skip
                  rcases Int.lt_or_le (xs 1).toInt (4) with h | h
                  · exact fin_bx l (by decide) C0 b_21_21 (iv5 hk ⟨by omega, by omega⟩ ⟨by omega, by omega⟩ ⟨by omega, by omega⟩)
                  · skip
                    rcases Int.lt_or_le (xs 1).toInt (5) with h | h
                    · exact fin_bx l (by decide) C0 b_21_22 (iv5 hk ⟨by omega, by omega⟩ ⟨by omega, by omega⟩ ⟨by omega, by omega⟩)
                    · skip
                      rcases Int.lt_or_le (xs 1).toInt (6) with h | h
                      · exact fin_bx l (by decide) C0 b_21_23 (iv5 hk ⟨by omega, by omega⟩ ⟨by omega, by omega⟩ ⟨by omega, by omega⟩)
                      · skip
                        rcases Int.lt_or_le (xs 1).toInt (7) with h | h
                        · exact fin_bx l (by decide) C0 b_21_24 (iv5 hk ⟨by omega, by omega⟩ ⟨by omega, by omega⟩ ⟨by omega, by omega⟩)
                        · skip
                          rcases Int.lt_or_le (xs 1).toInt (8) with h | h
                          · exact fin_bx l (by decide) C0 b_21_25 (iv5 hk ⟨by omega, by omega⟩ ⟨by omega, by omega⟩ ⟨by omega, by omega⟩)
                          · skip
                            rcases Int.lt_or_le (xs 1).toInt (9) with h | h
                            · exact fin_bx l (by decide) C0 b_21_26 (iv5 hk ⟨by omega, by omega⟩ ⟨by omega, by omega⟩ ⟨by omega, by omega⟩)
                            · skip
                              rcases Int.lt_or_le (xs 1).toInt (10) with h | h
                              · exact fin_bx l (by decide) C0 b_21_27 (iv5 hk ⟨by omega, by omega⟩ ⟨by omega, by omega⟩ ⟨by omega, by omega⟩)
                              · skip
                                rcases Int.lt_or_le (xs 1).toInt (11) with h | h
                                · exact fin_bx l (by decide) C0 b_21_28 (iv5 hk ⟨by omega, by omega⟩ ⟨by omega, by omega⟩ ⟨by omega, by omega⟩)
                                · skip
                                  rcases Int.lt_or_le (xs 1).toInt (12) with h | h
                                  · exact fin_bx l (by decide) C0 b_21_29 (iv5 hk ⟨by omega, by omega⟩ ⟨by omega, by omega⟩ ⟨by omega, by omega⟩)
                                  · skip
                                    rcases Int.lt_or_le (xs 1).toInt (13) with h | h
                                    · exact fin_bx l (by decide) C0 b_21_30 (iv5 hk ⟨by omega, by omega⟩ ⟨by omega, by omega⟩ ⟨by omega, by omega⟩)
                                    · skip
                                      exact fin_bx l (by decide) C0 b_21_31 (iv5 hk ⟨by omega, by omega⟩ ⟨by omega, by omega⟩ ⟨by omega, by omega⟩)
          · skip
            exact fin_bx l (by decide) C0 b_21_32 (iv5 hk ⟨by omega, by omega⟩ ⟨by omega, by omega⟩ ⟨by omega, by omega⟩)
      · skip
        exact fin_bx l (by decide) C0 b_21_33 (iv5 hk ⟨by omega, by omega⟩ ⟨by omega, by omega⟩ ⟨by omega, by omega⟩)
theorem case_22 {p : Program} {e : Env} {s : State} {m : MethodId} {below : List Frame} {meth : Method} {c : Code} {l : Launch} {b : Nat} {xs : Nat → Int32} (C0 : lw_At p s m meth c b 4 xs) (hk : 22 ≤ (xs 0 &&& 63).toInt ∧ (xs 0 &&& 63).toInt ≤ 22) : W p l e room_1 s m #[Value.ref b] below meth c s.heap [] 0 0 (lw_Z below #[Value.ref b] s) (entryFrame m ([Value.ref b] : List Value).toArray 4) := by
  have r1 := (xs 1).toInt_lt
  have r2 := (xs 1).le_toInt
  have r3 := (xs 2).toInt_lt
  have r4 := (xs 2).le_toInt
  have r5 := (xs 3).toInt_lt
  have r6 := (xs 3).le_toInt
  rcases Int.lt_or_le (xs 1).toInt (0) with h | h
  · exact fin_bx l (by decide) C0 b_22_0 (iv5 hk ⟨by omega, by omega⟩ ⟨by omega, by omega⟩ ⟨by omega, by omega⟩)
  · skip
    rcases Int.lt_or_le (xs 1).toInt (301) with h | h
    · rcases Int.lt_or_le (xs 1).toInt (1) with h | h
      · exact fin_bx l (by decide) C0 b_22_1 (iv5 hk ⟨by omega, by omega⟩ ⟨by omega, by omega⟩ ⟨by omega, by omega⟩)
      · skip
        exact fin_bx l (by decide) C0 b_22_2 (iv5 hk ⟨by omega, by omega⟩ ⟨by omega, by omega⟩ ⟨by omega, by omega⟩)
    · skip
      exact fin_bx l (by decide) C0 b_22_3 (iv5 hk ⟨by omega, by omega⟩ ⟨by omega, by omega⟩ ⟨by omega, by omega⟩)
theorem case_23 {p : Program} {e : Env} {s : State} {m : MethodId} {below : List Frame} {meth : Method} {c : Code} {l : Launch} {b : Nat} {xs : Nat → Int32} (C0 : lw_At p s m meth c b 4 xs) (hk : 23 ≤ (xs 0 &&& 63).toInt ∧ (xs 0 &&& 63).toInt ≤ 23) : W p l e room_1 s m #[Value.ref b] below meth c s.heap [] 0 0 (lw_Z below #[Value.ref b] s) (entryFrame m ([Value.ref b] : List Value).toArray 4) := by
  have r1 := (xs 1).toInt_lt
  have r2 := (xs 1).le_toInt
  have r3 := (xs 2).toInt_lt
  have r4 := (xs 2).le_toInt
  have r5 := (xs 3).toInt_lt
  have r6 := (xs 3).le_toInt
  rcases Int.lt_or_le (xs 1).toInt (0) with h | h
  · exact fin_bx l (by decide) C0 b_23_0 (iv5 hk ⟨by omega, by omega⟩ ⟨by omega, by omega⟩ ⟨by omega, by omega⟩)
  · skip
    rcases Int.lt_or_le (xs 1).toInt (301) with h | h
    · exact fin_bx l (by decide) C0 b_23_1 (iv5 hk ⟨by omega, by omega⟩ ⟨by omega, by omega⟩ ⟨by omega, by omega⟩)
    · skip
      exact fin_bx l (by decide) C0 b_23_2 (iv5 hk ⟨by omega, by omega⟩ ⟨by omega, by omega⟩ ⟨by omega, by omega⟩)
theorem case_24 {p : Program} {e : Env} {s : State} {m : MethodId} {below : List Frame} {meth : Method} {c : Code} {l : Launch} {b : Nat} {xs : Nat → Int32} (C0 : lw_At p s m meth c b 4 xs) (hk : 24 ≤ (xs 0 &&& 63).toInt ∧ (xs 0 &&& 63).toInt ≤ 24) : W p l e room_1 s m #[Value.ref b] below meth c s.heap [] 0 0 (lw_Z below #[Value.ref b] s) (entryFrame m ([Value.ref b] : List Value).toArray 4) := by
  have r1 := (xs 1).toInt_lt
  have r2 := (xs 1).le_toInt
  have r3 := (xs 2).toInt_lt
  have r4 := (xs 2).le_toInt
  have r5 := (xs 3).toInt_lt
  have r6 := (xs 3).le_toInt
  exact fin_bx l (by decide) C0 b_24_0 (iv5 hk ⟨by omega, by omega⟩ ⟨by omega, by omega⟩ ⟨by omega, by omega⟩)
theorem case_25 {p : Program} {e : Env} {s : State} {m : MethodId} {below : List Frame} {meth : Method} {c : Code} {l : Launch} {b : Nat} {xs : Nat → Int32} (C0 : lw_At p s m meth c b 4 xs) (hk : 25 ≤ (xs 0 &&& 63).toInt ∧ (xs 0 &&& 63).toInt ≤ 25) : W p l e room_1 s m #[Value.ref b] below meth c s.heap [] 0 0 (lw_Z below #[Value.ref b] s) (entryFrame m ([Value.ref b] : List Value).toArray 4) := by
  have r1 := (xs 1).toInt_lt
  have r2 := (xs 1).le_toInt
  have r3 := (xs 2).toInt_lt
  have r4 := (xs 2).le_toInt
  have r5 := (xs 3).toInt_lt
  have r6 := (xs 3).le_toInt
  exact fin_bx l (by decide) C0 b_25_0 (iv5 hk ⟨by omega, by omega⟩ ⟨by omega, by omega⟩ ⟨by omega, by omega⟩)
theorem case_26 {p : Program} {e : Env} {s : State} {m : MethodId} {below : List Frame} {meth : Method} {c : Code} {l : Launch} {b : Nat} {xs : Nat → Int32} (C0 : lw_At p s m meth c b 4 xs) (hk : 26 ≤ (xs 0 &&& 63).toInt ∧ (xs 0 &&& 63).toInt ≤ 26) : W p l e room_1 s m #[Value.ref b] below meth c s.heap [] 0 0 (lw_Z below #[Value.ref b] s) (entryFrame m ([Value.ref b] : List Value).toArray 4) := by
  have r1 := (xs 1).toInt_lt
  have r2 := (xs 1).le_toInt
  have r3 := (xs 2).toInt_lt
  have r4 := (xs 2).le_toInt
  have r5 := (xs 3).toInt_lt
  have r6 := (xs 3).le_toInt
  exact fin_bx l (by decide) C0 b_26_0 (iv5 hk ⟨by omega, by omega⟩ ⟨by omega, by omega⟩ ⟨by omega, by omega⟩)
theorem case_27 {p : Program} {e : Env} {s : State} {m : MethodId} {below : List Frame} {meth : Method} {c : Code} {l : Launch} {b : Nat} {xs : Nat → Int32} (C0 : lw_At p s m meth c b 4 xs) (hk : 27 ≤ (xs 0 &&& 63).toInt ∧ (xs 0 &&& 63).toInt ≤ 27) : W p l e room_1 s m #[Value.ref b] below meth c s.heap [] 0 0 (lw_Z below #[Value.ref b] s) (entryFrame m ([Value.ref b] : List Value).toArray 4) := by
  have r1 := (xs 1).toInt_lt
  have r2 := (xs 1).le_toInt
  have r3 := (xs 2).toInt_lt
  have r4 := (xs 2).le_toInt
  have r5 := (xs 3).toInt_lt
  have r6 := (xs 3).le_toInt
  exact fin_bx l (by decide) C0 b_27_0 (iv5 hk ⟨by omega, by omega⟩ ⟨by omega, by omega⟩ ⟨by omega, by omega⟩)
theorem case_28 {p : Program} {e : Env} {s : State} {m : MethodId} {below : List Frame} {meth : Method} {c : Code} {l : Launch} {b : Nat} {xs : Nat → Int32} (C0 : lw_At p s m meth c b 4 xs) (hk : 28 ≤ (xs 0 &&& 63).toInt ∧ (xs 0 &&& 63).toInt ≤ 28) : W p l e room_1 s m #[Value.ref b] below meth c s.heap [] 0 0 (lw_Z below #[Value.ref b] s) (entryFrame m ([Value.ref b] : List Value).toArray 4) := by
  have r1 := (xs 1).toInt_lt
  have r2 := (xs 1).le_toInt
  have r3 := (xs 2).toInt_lt
  have r4 := (xs 2).le_toInt
  have r5 := (xs 3).toInt_lt
  have r6 := (xs 3).le_toInt
  rcases Int.lt_or_le (xs 2).toInt (0) with h | h
  · exact fin_bx l (by decide) C0 b_28_0 (iv5 hk ⟨by omega, by omega⟩ ⟨by omega, by omega⟩ ⟨by omega, by omega⟩)
  · skip
    rcases Int.lt_or_le (xs 2).toInt (26) with h | h
    · exact fin_bx l (by decide) C0 b_28_1 (iv5 hk ⟨by omega, by omega⟩ ⟨by omega, by omega⟩ ⟨by omega, by omega⟩)
    · skip
      exact fin_bx l (by decide) C0 b_28_2 (iv5 hk ⟨by omega, by omega⟩ ⟨by omega, by omega⟩ ⟨by omega, by omega⟩)
theorem case_29 {p : Program} {e : Env} {s : State} {m : MethodId} {below : List Frame} {meth : Method} {c : Code} {l : Launch} {b : Nat} {xs : Nat → Int32} (C0 : lw_At p s m meth c b 4 xs) (hk : 29 ≤ (xs 0 &&& 63).toInt ∧ (xs 0 &&& 63).toInt ≤ 29) : W p l e room_1 s m #[Value.ref b] below meth c s.heap [] 0 0 (lw_Z below #[Value.ref b] s) (entryFrame m ([Value.ref b] : List Value).toArray 4) := by
  have r1 := (xs 1).toInt_lt
  have r2 := (xs 1).le_toInt
  have r3 := (xs 2).toInt_lt
  have r4 := (xs 2).le_toInt
  have r5 := (xs 3).toInt_lt
  have r6 := (xs 3).le_toInt
  rcases Int.lt_or_le (xs 1).toInt (9) with h | h
  · rcases Int.lt_or_le (xs 1).toInt (0) with h | h
    · exact fin_bx l (by decide) C0 b_29_0 (iv5 hk ⟨by omega, by omega⟩ ⟨by omega, by omega⟩ ⟨by omega, by omega⟩)
    · skip
      exact fin_bx l (by decide) C0 b_29_1 (iv5 hk ⟨by omega, by omega⟩ ⟨by omega, by omega⟩ ⟨by omega, by omega⟩)
  · skip
    exact fin_bx l (by decide) C0 b_29_2 (iv5 hk ⟨by omega, by omega⟩ ⟨by omega, by omega⟩ ⟨by omega, by omega⟩)
theorem case_30 {p : Program} {e : Env} {s : State} {m : MethodId} {below : List Frame} {meth : Method} {c : Code} {l : Launch} {b : Nat} {xs : Nat → Int32} (C0 : lw_At p s m meth c b 4 xs) (hk : 30 ≤ (xs 0 &&& 63).toInt ∧ (xs 0 &&& 63).toInt ≤ 30) : W p l e room_1 s m #[Value.ref b] below meth c s.heap [] 0 0 (lw_Z below #[Value.ref b] s) (entryFrame m ([Value.ref b] : List Value).toArray 4) := by
  have r1 := (xs 1).toInt_lt
  have r2 := (xs 1).le_toInt
  have r3 := (xs 2).toInt_lt
  have r4 := (xs 2).le_toInt
  have r5 := (xs 3).toInt_lt
  have r6 := (xs 3).le_toInt
  rcases Int.lt_or_le (xs 2).toInt (0) with h | h
  · exact fin_bx l (by decide) C0 b_30_0 (iv5 hk ⟨by omega, by omega⟩ ⟨by omega, by omega⟩ ⟨by omega, by omega⟩)
  · skip
    rcases Int.lt_or_le (xs 2).toInt (1) with h | h
    · rcases Int.lt_or_le (xs 1).toInt (0) with h | h
      · exact fin_bx l (by decide) C0 b_30_1 (iv5 hk ⟨by omega, by omega⟩ ⟨by omega, by omega⟩ ⟨by omega, by omega⟩)
      · skip
        exact fin_bx l (by decide) C0 b_30_2 (iv5 hk ⟨by omega, by omega⟩ ⟨by omega, by omega⟩ ⟨by omega, by omega⟩)
    · skip
      exact fin_bx l (by decide) C0 b_30_3 (iv5 hk ⟨by omega, by omega⟩ ⟨by omega, by omega⟩ ⟨by omega, by omega⟩)
theorem case_31 {p : Program} {e : Env} {s : State} {m : MethodId} {below : List Frame} {meth : Method} {c : Code} {l : Launch} {b : Nat} {xs : Nat → Int32} (C0 : lw_At p s m meth c b 4 xs) (hk : 31 ≤ (xs 0 &&& 63).toInt ∧ (xs 0 &&& 63).toInt ≤ 31) : W p l e room_1 s m #[Value.ref b] below meth c s.heap [] 0 0 (lw_Z below #[Value.ref b] s) (entryFrame m ([Value.ref b] : List Value).toArray 4) := by
  have r1 := (xs 1).toInt_lt
  have r2 := (xs 1).le_toInt
  have r3 := (xs 2).toInt_lt
  have r4 := (xs 2).le_toInt
  have r5 := (xs 3).toInt_lt
  have r6 := (xs 3).le_toInt
  rcases Int.lt_or_le (xs 2).toInt (1) with h | h
  · exact fin_bx l (by decide) C0 b_31_0 (iv5 hk ⟨by omega, by omega⟩ ⟨by omega, by omega⟩ ⟨by omega, by omega⟩)
  · skip
    rcases Int.lt_or_le (xs 2).toInt (2) with h | h
    · rcases Int.lt_or_le (xs 1).toInt (0) with h | h
      · exact fin_bx l (by decide) C0 b_31_1 (iv5 hk ⟨by omega, by omega⟩ ⟨by omega, by omega⟩ ⟨by omega, by omega⟩)
      · skip
        exact fin_bx l (by decide) C0 b_31_2 (iv5 hk ⟨by omega, by omega⟩ ⟨by omega, by omega⟩ ⟨by omega, by omega⟩)
    · skip
      rcases Int.lt_or_le (xs 2).toInt (3) with h | h
      · exact fin_bx l (by decide) C0 b_31_3 (iv5 hk ⟨by omega, by omega⟩ ⟨by omega, by omega⟩ ⟨by omega, by omega⟩)
      · skip
        rcases Int.lt_or_le (xs 2).toInt (4) with h | h
        · rcases Int.lt_or_le (xs 1).toInt (0) with h | h
          · exact fin_bx l (by decide) C0 b_31_4 (iv5 hk ⟨by omega, by omega⟩ ⟨by omega, by omega⟩ ⟨by omega, by omega⟩)
          · skip
            exact fin_bx l (by decide) C0 b_31_5 (iv5 hk ⟨by omega, by omega⟩ ⟨by omega, by omega⟩ ⟨by omega, by omega⟩)
        · skip
          exact fin_bx l (by decide) C0 b_31_6 (iv5 hk ⟨by omega, by omega⟩ ⟨by omega, by omega⟩ ⟨by omega, by omega⟩)
theorem case_32 {p : Program} {e : Env} {s : State} {m : MethodId} {below : List Frame} {meth : Method} {c : Code} {l : Launch} {b : Nat} {xs : Nat → Int32} (C0 : lw_At p s m meth c b 4 xs) (hk : 32 ≤ (xs 0 &&& 63).toInt ∧ (xs 0 &&& 63).toInt ≤ 32) : W p l e room_1 s m #[Value.ref b] below meth c s.heap [] 0 0 (lw_Z below #[Value.ref b] s) (entryFrame m ([Value.ref b] : List Value).toArray 4) := by
  have r1 := (xs 1).toInt_lt
  have r2 := (xs 1).le_toInt
  have r3 := (xs 2).toInt_lt
  have r4 := (xs 2).le_toInt
  have r5 := (xs 3).toInt_lt
  have r6 := (xs 3).le_toInt
  rcases Int.lt_or_le (xs 1).toInt (0) with h | h
  · rcases Int.lt_or_le (xs 2).toInt (0) with h | h
    · exact fin_bx l (by decide) C0 b_32_0 (iv5 hk ⟨by omega, by omega⟩ ⟨by omega, by omega⟩ ⟨by omega, by omega⟩)
    · skip
      exact fin_bx l (by decide) C0 b_32_1 (iv5 hk ⟨by omega, by omega⟩ ⟨by omega, by omega⟩ ⟨by omega, by omega⟩)
  · skip
    rcases Int.lt_or_le (xs 2).toInt (0) with h | h
    · exact fin_bx l (by decide) C0 b_32_2 (iv5 hk ⟨by omega, by omega⟩ ⟨by omega, by omega⟩ ⟨by omega, by omega⟩)
    · skip
      exact fin_bx l (by decide) C0 b_32_3 (iv5 hk ⟨by omega, by omega⟩ ⟨by omega, by omega⟩ ⟨by omega, by omega⟩)
theorem case_33 {p : Program} {e : Env} {s : State} {m : MethodId} {below : List Frame} {meth : Method} {c : Code} {l : Launch} {b : Nat} {xs : Nat → Int32} (C0 : lw_At p s m meth c b 4 xs) (hk : 33 ≤ (xs 0 &&& 63).toInt ∧ (xs 0 &&& 63).toInt ≤ 33) : W p l e room_1 s m #[Value.ref b] below meth c s.heap [] 0 0 (lw_Z below #[Value.ref b] s) (entryFrame m ([Value.ref b] : List Value).toArray 4) := by
  have r1 := (xs 1).toInt_lt
  have r2 := (xs 1).le_toInt
  have r3 := (xs 2).toInt_lt
  have r4 := (xs 2).le_toInt
  have r5 := (xs 3).toInt_lt
  have r6 := (xs 3).le_toInt
  exact fin_bx l (by decide) C0 b_33_0 (iv5 hk ⟨by omega, by omega⟩ ⟨by omega, by omega⟩ ⟨by omega, by omega⟩)
theorem case_34 {p : Program} {e : Env} {s : State} {m : MethodId} {below : List Frame} {meth : Method} {c : Code} {l : Launch} {b : Nat} {xs : Nat → Int32} (C0 : lw_At p s m meth c b 4 xs) (hk : 34 ≤ (xs 0 &&& 63).toInt ∧ (xs 0 &&& 63).toInt ≤ 34) : W p l e room_1 s m #[Value.ref b] below meth c s.heap [] 0 0 (lw_Z below #[Value.ref b] s) (entryFrame m ([Value.ref b] : List Value).toArray 4) := by
  have r1 := (xs 1).toInt_lt
  have r2 := (xs 1).le_toInt
  have r3 := (xs 2).toInt_lt
  have r4 := (xs 2).le_toInt
  have r5 := (xs 3).toInt_lt
  have r6 := (xs 3).le_toInt
  rcases Int.lt_or_le (xs 1).toInt (0) with h | h
  · exact fin_bx l (by decide) C0 b_34_0 (iv5 hk ⟨by omega, by omega⟩ ⟨by omega, by omega⟩ ⟨by omega, by omega⟩)
  · skip
    rcases Int.lt_or_le (xs 1).toInt (7) with h | h
    · rcases Int.lt_or_le (xs 1).toInt (1) with h | h
      · exact fin_bx l (by decide) C0 b_34_1 (iv5 hk ⟨by omega, by omega⟩ ⟨by omega, by omega⟩ ⟨by omega, by omega⟩)
      · skip
        rcases Int.lt_or_le (xs 1).toInt (2) with h | h
        · exact fin_bx l (by decide) C0 b_34_2 (iv5 hk ⟨by omega, by omega⟩ ⟨by omega, by omega⟩ ⟨by omega, by omega⟩)
        · skip
          rcases Int.lt_or_le (xs 1).toInt (3) with h | h
          · exact fin_bx l (by decide) C0 b_34_3 (iv5 hk ⟨by omega, by omega⟩ ⟨by omega, by omega⟩ ⟨by omega, by omega⟩)
          · skip
            rcases Int.lt_or_le (xs 1).toInt (4) with h | h
            · exact fin_bx l (by decide) C0 b_34_4 (iv5 hk ⟨by omega, by omega⟩ ⟨by omega, by omega⟩ ⟨by omega, by omega⟩)
            · skip
              rcases Int.lt_or_le (xs 1).toInt (5) with h | h
              · exact fin_bx l (by decide) C0 b_34_5 (iv5 hk ⟨by omega, by omega⟩ ⟨by omega, by omega⟩ ⟨by omega, by omega⟩)
              · skip
                rcases Int.lt_or_le (xs 1).toInt (6) with h | h
                · exact fin_bx l (by decide) C0 b_34_6 (iv5 hk ⟨by omega, by omega⟩ ⟨by omega, by omega⟩ ⟨by omega, by omega⟩)
                · skip
                  exact fin_bx l (by decide) C0 b_34_7 (iv5 hk ⟨by omega, by omega⟩ ⟨by omega, by omega⟩ ⟨by omega, by omega⟩)
    · skip
      exact fin_bx l (by decide) C0 b_34_8 (iv5 hk ⟨by omega, by omega⟩ ⟨by omega, by omega⟩ ⟨by omega, by omega⟩)
theorem case_35 {p : Program} {e : Env} {s : State} {m : MethodId} {below : List Frame} {meth : Method} {c : Code} {l : Launch} {b : Nat} {xs : Nat → Int32} (C0 : lw_At p s m meth c b 4 xs) (hk : 35 ≤ (xs 0 &&& 63).toInt ∧ (xs 0 &&& 63).toInt ≤ 35) : W p l e room_1 s m #[Value.ref b] below meth c s.heap [] 0 0 (lw_Z below #[Value.ref b] s) (entryFrame m ([Value.ref b] : List Value).toArray 4) := by
  have r1 := (xs 1).toInt_lt
  have r2 := (xs 1).le_toInt
  have r3 := (xs 2).toInt_lt
  have r4 := (xs 2).le_toInt
  have r5 := (xs 3).toInt_lt
  have r6 := (xs 3).le_toInt
  exact fin_bx l (by decide) C0 b_35_0 (iv5 hk ⟨by omega, by omega⟩ ⟨by omega, by omega⟩ ⟨by omega, by omega⟩)
theorem case_36 {p : Program} {e : Env} {s : State} {m : MethodId} {below : List Frame} {meth : Method} {c : Code} {l : Launch} {b : Nat} {xs : Nat → Int32} (C0 : lw_At p s m meth c b 4 xs) (hk : 36 ≤ (xs 0 &&& 63).toInt ∧ (xs 0 &&& 63).toInt ≤ 36) : W p l e room_1 s m #[Value.ref b] below meth c s.heap [] 0 0 (lw_Z below #[Value.ref b] s) (entryFrame m ([Value.ref b] : List Value).toArray 4) := by
  have r1 := (xs 1).toInt_lt
  have r2 := (xs 1).le_toInt
  have r3 := (xs 2).toInt_lt
  have r4 := (xs 2).le_toInt
  have r5 := (xs 3).toInt_lt
  have r6 := (xs 3).le_toInt
  rcases Int.lt_or_le (xs 1).toInt (1) with h | h
  · exact fin_bx l (by decide) C0 b_36_0 (iv5 hk ⟨by omega, by omega⟩ ⟨by omega, by omega⟩ ⟨by omega, by omega⟩)
  · skip
    rcases Int.lt_or_le (xs 1).toInt (6) with h | h
    · rcases Int.lt_or_le (xs 1).toInt (2) with h | h
      · exact fin_bx l (by decide) C0 b_36_1 (iv5 hk ⟨by omega, by omega⟩ ⟨by omega, by omega⟩ ⟨by omega, by omega⟩)
      · skip
        rcases Int.lt_or_le (xs 1).toInt (3) with h | h
        · exact fin_bx l (by decide) C0 b_36_2 (iv5 hk ⟨by omega, by omega⟩ ⟨by omega, by omega⟩ ⟨by omega, by omega⟩)
        · skip
          rcases Int.lt_or_le (xs 1).toInt (4) with h | h
          · exact fin_bx l (by decide) C0 b_36_3 (iv5 hk ⟨by omega, by omega⟩ ⟨by omega, by omega⟩ ⟨by omega, by omega⟩)
          · skip
            rcases Int.lt_or_le (xs 1).toInt (5) with h | h
            · exact fin_bx l (by decide) C0 b_36_4 (iv5 hk ⟨by omega, by omega⟩ ⟨by omega, by omega⟩ ⟨by omega, by omega⟩)
            · skip
              exact fin_bx l (by decide) C0 b_36_5 (iv5 hk ⟨by omega, by omega⟩ ⟨by omega, by omega⟩ ⟨by omega, by omega⟩)
    · skip
      exact fin_bx l (by decide) C0 b_36_6 (iv5 hk ⟨by omega, by omega⟩ ⟨by omega, by omega⟩ ⟨by omega, by omega⟩)
theorem case_37 {p : Program} {e : Env} {s : State} {m : MethodId} {below : List Frame} {meth : Method} {c : Code} {l : Launch} {b : Nat} {xs : Nat → Int32} (C0 : lw_At p s m meth c b 4 xs) (hk : 37 ≤ (xs 0 &&& 63).toInt ∧ (xs 0 &&& 63).toInt ≤ 37) : W p l e room_1 s m #[Value.ref b] below meth c s.heap [] 0 0 (lw_Z below #[Value.ref b] s) (entryFrame m ([Value.ref b] : List Value).toArray 4) := by
  have r1 := (xs 1).toInt_lt
  have r2 := (xs 1).le_toInt
  have r3 := (xs 2).toInt_lt
  have r4 := (xs 2).le_toInt
  have r5 := (xs 3).toInt_lt
  have r6 := (xs 3).le_toInt
  exact fin_bx l (by decide) C0 b_37_0 (iv5 hk ⟨by omega, by omega⟩ ⟨by omega, by omega⟩ ⟨by omega, by omega⟩)
theorem case_38 {p : Program} {e : Env} {s : State} {m : MethodId} {below : List Frame} {meth : Method} {c : Code} {l : Launch} {b : Nat} {xs : Nat → Int32} (C0 : lw_At p s m meth c b 4 xs) (hk : 38 ≤ (xs 0 &&& 63).toInt ∧ (xs 0 &&& 63).toInt ≤ 63) : W p l e room_1 s m #[Value.ref b] below meth c s.heap [] 0 0 (lw_Z below #[Value.ref b] s) (entryFrame m ([Value.ref b] : List Value).toArray 4) := by
  have r1 := (xs 1).toInt_lt
  have r2 := (xs 1).le_toInt
  have r3 := (xs 2).toInt_lt
  have r4 := (xs 2).le_toInt
  have r5 := (xs 3).toInt_lt
  have r6 := (xs 3).le_toInt
  exact fin_bx l (by decide) C0 b_38_0 (iv5 hk ⟨by omega, by omega⟩ ⟨by omega, by omega⟩ ⟨by omega, by omega⟩)
