/-! The law from its start to its loop, whatever the script holds. -/
theorem law_pre {l : Launch} {D : va_G} {dA : Nat → ClassId} {pre : Nat → Nat} {base : Nat} {ρ : Nat → Int32} (hρ : ∀ j : Nat, j < 4 → ρ (j + 4) = ρ j &&& 63 ∧ ρ (j + 8) = ρ j + Int32.ofInt (-1)) {L k' n' : Nat} (hL : L < 5) {h' : MH} {v : Option Value} (hk : 289 ≤ k') (hn : 144644 ≤ n')
    (hb : mBody l D cl0 dA pre base ρ tyL0 Ts0 NW0 (mG L (fun _ => 0)) YB0 30 255 16 [(2, .ref 307), (1, .ref 64), (0, .ref 0)] [] HM0 289 144644 v h' k' n') : mBody l D cl0 dA pre base ρ tyL0 Ts0 NW0 (mG L (fun _ => 0)) YB0 30 255 0 [(0, .ref 0)] [] (64, []) 0 0 v h' k' n' := by
  have hI : ivP ρ [] := ⟨fun j a b h => (by cases h), fun _ => hρ⟩
  refine body_on (i := .new 7) (nx := 3) (x := 0) (y := 0) hI rfl rfl rfl (by show 0 + 1 ≤ k'; omega) (by show 0 + 16 ≤ n'; omega) ?_
  show mBody l D cl0 dA pre base ρ tyL0 Ts0 NW0 (mG L (fun _ => 0)) YB0 30 255 3 [(0, .ref 0)] [.ref 64] (65, [.inr (0, bls.getD 0 [])]) 1 16 v h' k' n'
  refine body_on (i := .dup) (nx := 4) (x := 0) (y := 0) hI rfl rfl rfl (by show 0 + 1 + 0 ≤ k'; omega) (by show 0 + 16 + 0 ≤ n'; omega) ?_
  show mBody l D cl0 dA pre base ρ tyL0 Ts0 NW0 (mG L (fun _ => 0)) YB0 30 255 4 [(0, .ref 0)] [.ref 64, .ref 64] (65, [.inr (0, bls.getD 0 [])]) 1 16 v h' k' n'
  refine body_call (i := .invokespecial 9) (nx := 7) (x := 1) (y := 0) hI rfl rfl rfl (Nat.le_of_ble_eq_true rfl) (Nat.le_of_ble_eq_true rfl) (Nat.le_of_ble_eq_true rfl) (ctor_x L hL) (by show 0 + 1 + 0 + 242 ≤ k'; omega) (by show 0 + 16 + 0 + 24762 ≤ n'; omega) ?_
  show mBody l D cl0 dA pre base ρ tyL0 Ts0 NW0 (mG L (fun _ => 0)) YB0 30 255 7 [(0, .ref 0)] [.ref 64] HX0 243 24778 v h' k' n'
  refine body_on (i := .astore_n 1) (nx := 8) (x := 0) (y := 0) hI rfl rfl rfl (by show 243 + 0 ≤ k'; omega) (by show 24778 + 0 ≤ n'; omega) ?_
  show mBody l D cl0 dA pre base ρ tyL0 Ts0 NW0 (mG L (fun _ => 0)) YB0 30 255 8 [(1, .ref 64), (0, .ref 0)] [] HX0 243 24778 v h' k' n'
  refine body_on (i := .new 10) (nx := 11) (x := 12) (y := 0) hI rfl rfl rfl (by show 243 + 1 ≤ k'; omega) (by show 24778 + 74 ≤ n'; omega) ?_
  show mBody l D cl0 dA pre base ρ tyL0 Ts0 NW0 (mG L (fun _ => 0)) YB0 30 255 11 [(1, .ref 64), (0, .ref 0)] [.ref 307] (mpush HX0 (.inr (12, bls.getD 12 []))) 244 24852 v h' k' n'
  refine body_on (i := .dup) (nx := 12) (x := 0) (y := 0) hI rfl rfl rfl (by show 244 + 0 ≤ k'; omega) (by show 24852 + 0 ≤ n'; omega) ?_
  show mBody l D cl0 dA pre base ρ tyL0 Ts0 NW0 (mG L (fun _ => 0)) YB0 30 255 12 [(1, .ref 64), (0, .ref 0)] [.ref 307, .ref 307] (mpush HX0 (.inr (12, bls.getD 12 []))) 244 24852 v h' k' n'
  refine body_call (i := .invokespecial 12) (nx := 15) (x := 59) (y := 0) hI rfl rfl rfl (Nat.le_of_ble_eq_true rfl) (Nat.le_of_ble_eq_true rfl) (Nat.le_of_ble_eq_true rfl) (ctor_m L hL) (by show 244 + 45 ≤ k'; omega) (by show 24852 + 119792 ≤ n'; omega) ?_
  show mBody l D cl0 dA pre base ρ tyL0 Ts0 NW0 (mG L (fun _ => 0)) YB0 30 255 15 [(1, .ref 64), (0, .ref 0)] [.ref 307] HM0 289 144644 v h' k' n'
  refine body_on (i := .astore_n 2) (nx := 16) (x := 0) (y := 0) hI rfl rfl rfl (by show 289 + 0 ≤ k'; omega) (by show 144644 + 0 ≤ n'; omega) ?_
  show mBody l D cl0 dA pre base ρ tyL0 Ts0 NW0 (mG L (fun _ => 0)) YB0 30 255 16 [(2, .ref 307), (1, .ref 64), (0, .ref 0)] [] HM0 289 144644 v h' k' n'
  exact hb
noncomputable def bxS (L : Nat) (iv : List (Int × Int)) : Option (Nat × Nat) := match mrun iv (mG L (fun _ => 0)) 20000 30 255 16 [(2, .ref 307), (1, .ref 64), (0, .ref 0)] [] HM0 289 144644 with
  | some (some v, _, k', n') => if decide (v = .int 1) && (decide (k' ≤ 600000) && decide (n' ≤ 7302249)) then some (k', n') else none
  | _ => none
noncomputable def bx (L : Nat) (iv : List (Int × Int)) : Bool := (bxS L iv).isSome
def rho (xs : Nat → Int32) (j : Nat) : Int32 := if j < 4 then xs j else if j < 8 then xs (j - 4) &&& 63 else if j < 12 then xs (j - 8) + Int32.ofInt (-1) else 0
theorem rho_ok (xs : Nat → Int32) (j : Nat) (hj : j < 4) : rho xs (j + 4) = rho xs j &&& 63 ∧ rho xs (j + 8) = rho xs j + Int32.ofInt (-1) := by
  unfold rho
  constructor
  · rw [if_neg (by omega), if_pos (by omega), if_pos hj, Nat.add_sub_cancel]
  · rw [if_neg (by omega), if_neg (by omega), if_pos (by omega), if_pos hj, Nat.add_sub_cancel]
theorem fin_bx {p : Program} {e : Env} {s : State} {m : MethodId} {below : List Frame} {meth : Method} {c : Code} (l : Launch) {b L : Nat} {xs : Nat → Int32} (hL : L < 5) (C0 : lw_At p s m meth c b L xs) {iv : List (Int × Int)} (hb : bx L iv = true) (hI : ∀ (j : Nat) (a b : Int), iv[j]? = some (a, b) → a ≤ (rho xs j).toInt ∧ (rho xs j).toInt ≤ b) :
    W p l e room_1 s m #[Value.ref b] below meth c s.heap [] 0 0 (lw_Z below #[Value.ref b] s) (entryFrame m ([Value.ref b] : List Value).toArray 4) := by
  unfold bx bxS at hb
  split at hb
  · rename_i v h' k' n' hr
    obtain ⟨h1, -⟩ : (decide (v = .int 1) && (decide (k' ≤ 600000) && decide (n' ≤ 7302249))) = true ∧ True := by
      by_cases h : (decide (v = .int 1) && (decide (k' ≤ 600000) && decide (n' ≤ 7302249))) = true
      · exact ⟨h, trivial⟩
      · rw [if_neg h] at hb
        cases hb
    simp only [Bool.and_eq_true, decide_eq_true_eq] at h1
    obtain ⟨rfl, h2, h3⟩ := h1
    have hm := mrun_mono _ _ _ _ _ _ _ _ _ _ _ _ _ hr
    exact law_run l C0 (ρ := rho xs) (fun j hj => by unfold rho; rw [if_pos (by omega)]) (fun D dA pre base => law_pre (rho_ok xs) hL hm.1 hm.2 (body_run ⟨hI, fun _ => rho_ok xs⟩ hr)) (by decide) h2 h3
  · cases hb

