/-! The law from its start, for any script. -/
theorem ivS_P {L : Nat} {xs : Nat → Int32} : ivP xs (ivS L xs) := by
  refine ⟨fun j a b h => ?_, fun h => ?_⟩
  · have hj : j < max L 6 := by
      rw [← ivS_len (L := L) (xs := xs)]
      exact (List.getElem?_eq_some_iff.mp h).1
    rw [ivS_at hj] at h
    cases h
    exact ⟨Int.le_refl _, Int.le_refl _⟩
  · have := ivS_6 (L := L) (xs := xs)
    omega
theorem law_pre {l : Launch} {D : va_G} {dA : Nat → ClassId} {pre : Nat → Nat} {base : Nat} {ρ : Nat → Int32} {iv : List (Int × Int)} (hI : ivP ρ iv) (h6 : 6 ≤ iv.length) (hj : ∀ j, j < 6 → ∃ a, iv[j]? = some (a, a)) {L k' n' : Nat} {h' : MH} {v : Option Value} (hk : 289 ≤ k') (hn : 144644 ≤ n')
    (hb : mBody l D cl0 dA pre base ρ tyL0 Ts0 NW0 (mG L (fun _ => 0)) YB0 413 255 16 [(2, .ref 307), (1, .ref 64), (0, .ref 0)] [] HM0 289 144644 v h' k' n') : mBody l D cl0 dA pre base ρ tyL0 Ts0 NW0 (mG L (fun _ => 0)) YB0 413 255 0 [(0, .ref 0)] [] (64, []) 0 0 v h' k' n' := by
  refine body_on (i := .new 7) (nx := 3) (x := 0) (y := 0) hI rfl rfl rfl (by show 0 + 1 ≤ k'; omega) (by show 0 + 16 ≤ n'; omega) ?_
  show mBody l D cl0 dA pre base ρ tyL0 Ts0 NW0 (mG L (fun _ => 0)) YB0 413 255 3 [(0, .ref 0)] [.ref 64] (65, [.inr (0, bls.getD 0 [])]) 1 16 v h' k' n'
  refine body_on (i := .dup) (nx := 4) (x := 0) (y := 0) hI rfl rfl rfl (by show 0 + 1 + 0 ≤ k'; omega) (by show 0 + 16 + 0 ≤ n'; omega) ?_
  show mBody l D cl0 dA pre base ρ tyL0 Ts0 NW0 (mG L (fun _ => 0)) YB0 413 255 4 [(0, .ref 0)] [.ref 64, .ref 64] (65, [.inr (0, bls.getD 0 [])]) 1 16 v h' k' n'
  refine body_call (i := .invokespecial 9) (nx := 7) (x := 1) (y := 0) hI rfl rfl rfl (Nat.le_of_ble_eq_true rfl) (Nat.le_of_ble_eq_true rfl) (Nat.le_of_ble_eq_true rfl) (mrun_f 20000 20000 29 412 _ _ _ _ _ _ _ _ (Nat.le_refl _) (by decide) (ctor_x h6 hj)) (by show 0 + 1 + 0 + 242 ≤ k'; omega) (by show 0 + 16 + 0 + 24762 ≤ n'; omega) ?_
  show mBody l D cl0 dA pre base ρ tyL0 Ts0 NW0 (mG L (fun _ => 0)) YB0 413 255 7 [(0, .ref 0)] [.ref 64] HX0 243 24778 v h' k' n'
  refine body_on (i := .astore_n 1) (nx := 8) (x := 0) (y := 0) hI rfl rfl rfl (by show 243 + 0 ≤ k'; omega) (by show 24778 + 0 ≤ n'; omega) ?_
  show mBody l D cl0 dA pre base ρ tyL0 Ts0 NW0 (mG L (fun _ => 0)) YB0 413 255 8 [(1, .ref 64), (0, .ref 0)] [] HX0 243 24778 v h' k' n'
  refine body_on (i := .new 10) (nx := 11) (x := 12) (y := 0) hI rfl rfl rfl (by show 243 + 1 ≤ k'; omega) (by show 24778 + 74 ≤ n'; omega) ?_
  show mBody l D cl0 dA pre base ρ tyL0 Ts0 NW0 (mG L (fun _ => 0)) YB0 413 255 11 [(1, .ref 64), (0, .ref 0)] [.ref 307] (mpush HX0 (.inr (12, bls.getD 12 []))) 244 24852 v h' k' n'
  refine body_on (i := .dup) (nx := 12) (x := 0) (y := 0) hI rfl rfl rfl (by show 244 + 0 ≤ k'; omega) (by show 24852 + 0 ≤ n'; omega) ?_
  show mBody l D cl0 dA pre base ρ tyL0 Ts0 NW0 (mG L (fun _ => 0)) YB0 413 255 12 [(1, .ref 64), (0, .ref 0)] [.ref 307, .ref 307] (mpush HX0 (.inr (12, bls.getD 12 []))) 244 24852 v h' k' n'
  refine body_call (i := .invokespecial 12) (nx := 15) (x := 59) (y := 0) hI rfl rfl rfl (Nat.le_of_ble_eq_true rfl) (Nat.le_of_ble_eq_true rfl) (Nat.le_of_ble_eq_true rfl) (mrun_f 20000 20000 29 412 _ _ _ _ _ _ _ _ (Nat.le_refl _) (by decide) (ctor_m h6 hj)) (by show 244 + 45 ≤ k'; omega) (by show 24852 + 119792 ≤ n'; omega) ?_
  show mBody l D cl0 dA pre base ρ tyL0 Ts0 NW0 (mG L (fun _ => 0)) YB0 413 255 15 [(1, .ref 64), (0, .ref 0)] [.ref 307] HM0 289 144644 v h' k' n'
  refine body_on (i := .astore_n 2) (nx := 16) (x := 0) (y := 0) hI rfl rfl rfl (by show 289 + 0 ≤ k'; omega) (by show 144644 + 0 ≤ n'; omega) ?_
  exact hb
theorem whole_start {p : Program} {e : Env} {s : State} {m : MethodId} {below : List Frame} {meth : Method} {c : Code} (l : Launch) (_hflags : l.flags = flags0) {b L : Nat} {xs : Nat → Int32} (hL : L ≤ 2048) (C0 : lw_At p s m meth c b L xs) :
    W p l e room_1 s m #[Value.ref b] below meth c s.heap [] 0 0 (lw_Z below #[Value.ref b] s) (entryFrame m ([Value.ref b] : List Value).toArray 4) := by
  obtain ⟨f, h', k', n', hr, hk, hn⟩ := law_end (xs := xs) hL
  exact law_run l C0 (ρ := xs) (fun _ _ => rfl) (fun D dA pre base => law_pre (iv := ivS L xs) ivS_P (ivS_6 (L := L) (xs := xs)).1 (ivS_6 (L := L) (xs := xs)).2 (by have := mrun_mono _ _ _ _ _ _ _ _ _ _ _ _ _ hr; exact this.1) (by have := mrun_mono _ _ _ _ _ _ _ _ _ _ _ _ _ hr; exact this.2) (body_run (iv := ivS L xs) ivS_P hr)) (by decide) hk (Nat.le_trans hn (by decide))
