/-! The law's run behind its constructors, for any script. -/
theorem law_end {L : Nat} {xs : Nat → Int32} (hL : L ≤ 2048) : ∃ (f : Nat) (h' : MH) (k' n' : Nat), mrun (ivS L xs) (mG L (fun _ => 0)) f 413 255 16 [(2, .ref 307), (1, .ref 64), (0, .ref 0)] [] HM0 289 144644 = some (some (.int 1), h', k', n') ∧ k' ≤ 600000 ∧ n' ≤ 7302249 := by
  have hw : wp (ivS L xs) L RpK csK 413 255 16 [lr 0, lr 64, lr 307] [] (HM0, 289, 144644) (fun v S => v = some (vi 1) ∧ S.2.1 ≤ 600000 ∧ S.2.2 ≤ 7302249) := by
    refine w_iconst rfl rfl ?_
    refine w_istore_n rfl rfl ?_
    exact law_loop hL 512 0 0 _ LI_0 (by decide) (by decide) (by omega)
  obtain ⟨f, v, h', k, n, s', e, -, e3, e4, e5, hv, hk, hn⟩ := hw (fun i v h => by
    match i, h with
    | 0, h => cases h; trivial
    | 1, h => cases h; trivial
    | 2, h => cases h; trivial
    | _ + 3, h => cases h) (fun _ h => by cases h) HM0 [(2, .ref 307), (1, .ref 64), (0, .ref 0)] (fun i v h => by
    match i, h with
    | 0, h => cases h; rfl
    | 1, h => cases h; rfl
    | 2, h => cases h; rfl
    | _ + 3, h => cases h) rfl
  subst hv
  have e4 : 289 + k = s'.2.1 := e4
  have e5 : 144644 + n = s'.2.2 := e5
  have p := mrun_k _ _ _ _ _ _ _ _ _ _ _ _ _ 289 144644 e
  exact ⟨f, h', 289 + k, 144644 + n, p, by omega, by omega⟩
