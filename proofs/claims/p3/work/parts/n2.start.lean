/-! Both sides behind their constructors are a pair. -/
def A00 (b : Int) : Nat := if b = 0 then 73 else 2
theorem rowI_nil {a t n : Nat} (h : mget HM0 a = some (.inl (t, n, .inl []))) (i : Int) : rowI HM0 a i = 0 := by
  unfold rowI
  rw [h]
  rfl
theorem rowR_nil {a t n : Nat} (h : mget HM0 a = some (.inl (t, n, .inr []))) (i : Int) : rowR HM0 a i = 2 := by
  unfold rowR
  rw [h]
  rfl
/-- an empty row of the reference -/
def nilM (y : Nat) : Bool := match mfl[y]? with
  | some (some (a, _, _)) => match mget HM0 a with
    | some (.inl (_, _, .inl [])) => true
    | _ => false
  | _ => false
theorem nilM_ok {y : Nat} (h : nilM y = true) (i : Int) : s00.2 y i = 0 := by
  unfold nilM at h
  show (match mfl[y]? with
    | some (some (a, _, _)) => rowI HM0 a i
    | _ => 0) = 0
  split at h
  · rename_i a t n e
    split at h
    · rename_i e2
      exact rowI_nil e2 i
    · cases h
  · cases h
theorem m1 : nilM 1 = true := by decide +kernel
theorem m37 : nilM 37 = true := by decide +kernel
theorem m42 : nilM 42 = true := by decide +kernel
theorem m72 : nilM 72 = true := by decide +kernel
theorem v00 : s00.1 0 = 0 ∧ s00.1 2 = 3 ∧ s00.1 8 = 1 ∧ s00.1 15 = 0 ∧ s00.1 16 = 0 ∧ s00.1 24 = 0 ∧ s00.1 35 = 0 ∧ s00.1 56 = 0 ∧ s00.1 60 = -9 ∧ s00.1 61 = -9 ∧ s00.1 63 = 0 ∧ s00.1 71 = 0 := by decide +kernel
theorem r00 : s00.2 9 0 = 0 ∧ s00.2 10 0 = -9 ∧ s00.2 11 0 = -9 ∧ s00.2 12 0 = -9 ∧ s00.2 13 0 = -9 := by decide +kernel
theorem k00 : ∀ k : Nat, k < 3 → (s00.2 4 k = k ∧ s00.2 5 k = -9 ∧ s00.2 6 k = -9 ∧ s00.2 7 k = 1) ∧ (aI c00 66 k = k ∧ aI c00 67 k = -9 ∧ aI c00 68 k = -9 ∧ aI c00 69 k = 1) := by decide +kernel
theorem KI00 : KIs s00 := ⟨by have := v00.2.1; omega, fun k k0 k3 => by
  obtain ⟨j, rfl⟩ : ∃ j : Nat, k = j := ⟨k.toNat, by omega⟩
  exact (k00 j (by omega)).1, fun k k3 kn => by have := v00.2.1; omega⟩
theorem SHT00 : SHT s00 (.index 0) := by
  obtain ⟨v0, v2, v8, v15, v16, -⟩ := v00
  obtain ⟨r9, r10, r11, r12, r13⟩ := r00
  refine ⟨⟨by show ((0 : Nat) : Int) < s00.1 8; omega, by show 0 ≤ s00.2 9 ((0 : Nat) : Int); rw [show (((0 : Nat) : Int)) = 0 from rfl, r9]; decide, by show s00.2 9 ((0 : Nat) : Int) < 16; rw [show (((0 : Nat) : Int)) = 0 from rfl, r9]; decide⟩, ?_, by decide, by decide, by omega, by rw [v15]; rfl, r12, r13⟩
  show (0 : Int) = pO (s00.2 9 0)
  rw [r9]
  decide
theorem AFT00 : AFT s00 (.index 0) := by
  obtain ⟨v0, v2, v8, v15, v16, -⟩ := v00
  obtain ⟨r9, r10, r11, r12, r13⟩ := r00
  refine ⟨SHT00, fun x x0 x1 => ?_, by rw [v16]; exact List.mem_singleton.mpr rfl⟩
  obtain rfl : x = 0 := by omega
  rw [r9]
  exact ⟨by decide, fun q => by omega, fun q => by omega, fun q => by omega⟩
theorem MS00 : MS 0 s00 (.index 0) [] (fun _ => none) .null [] := by
  obtain ⟨v0, v2, v8, v15, v16, v24, v35, v56, v60, v61, v63, v71⟩ := v00
  obtain ⟨r9, r10, r11, r12, r13⟩ := r00
  have nv : ¬ hasV s00 := by unfold hasV; omega
  refine ⟨⟨AFT00, KI00, fun x x0 x1 => ?_, fun u hu => by cases hu⟩, ⟨⟨by omega, fun i i0 i8 => ?_⟩, fun f f0 f6 => ?_⟩, ⟨⟨v24, by decide, fun i u h => by simp at h⟩, fun p p0 p6 => ⟨fun _ => nilM_ok m37 p, fun e h => by cases h⟩⟩, ⟨fun b _ _ => Or.inl (nilM_ok m42 b), fun b _ _ => nilM_ok m42 b⟩, ⟨fun h => absurd h nv, fun h => absurd h nv⟩, ⟨v63, by decide, fun k a h => by simp at h⟩, fun p h => by cases h⟩
  · obtain rfl : x = 0 := by omega
    rw [r9, r10, r11]
    decide
  · rw [nilM_ok m72 i]; omega
  · rw [nilM_ok m1 f]; omega
theorem FIX00 : FIX c00 := by
  refine ⟨?_, ⟨?_, ?_⟩, by decide +kernel, by decide +kernel⟩
  · unfold FIXa; repeat' apply And.intro
    all_goals decide +kernel
  · unfold FIXs; decide +kernel
  · unfold FIXc; decide +kernel
theorem TRa : ∀ n : Nat, n < 16 → n ≠ 0 → aR c00 194 n = tra n ∧ kl c00 (tra n) = 5 ∧ kl c00 (tra n + 1) = 103 ∧ le c00 (tra n + 1) = pO n := by decide +kernel
theorem TRb : ∀ n : Nat, n < 16 → n ≠ 0 → fI c00 (tra n) 1 = n ∧ fR c00 (tra n) 3 = tra n + 1 ∧ (n = 8 ∨ n = 15 → fI c00 (tra n) 2 = 0) := by decide +kernel
theorem TRd : ∀ n : Nat, n < 16 → ∀ i : Nat, i < 3 → (n ≠ 0 ∧ (i : Int) < pO n) → aR c00 (tra n + 1) i = tra n + 2 + 2 * i ∧ kl c00 (tra n + 2 + 2 * i) = 5 ∧ kl c00 (tra n + 2 + 2 * i + 1) = 103 ∧ le c00 (tra n + 2 + 2 * i + 1) = 0 := by decide +kernel
theorem TRe : ∀ n : Nat, n < 16 → ∀ i : Nat, i < 3 → (n ≠ 0 ∧ (i : Int) < pO n) → fI c00 (tra n + 2 + 2 * i) 1 = 0 ∧ fR c00 (tra n + 2 + 2 * i) 3 = tra n + 2 + 2 * i + 1 ∧ fR c00 (tra n + 2 + 2 * i) 5 = tra n ∧ fI c00 (tra n + 2 + 2 * i) 6 = i := by decide +kernel
theorem TR00 : TRc c00 := fun n n1 n16 => by
  obtain ⟨a1, a2, a3, a4⟩ := TRa n n16 (by omega)
  refine ⟨⟨a1, a2, a3, a4, TRb n n16 (by omega)⟩, fun i hi => ?_⟩
  have := pO_in n
  obtain ⟨b1, b2, b3, b4⟩ := TRd n n16 i (by omega) ⟨by omega, hi⟩
  exact ⟨b1, b2, b3, b4, TRe n n16 i (by omega) ⟨by omega, hi⟩⟩
/-- what the desk's cells hold at first -/
theorem w00 : (fR c00 70 1 = 73 ∧ fR c00 70 2 = 73 ∧ fI c00 70 3 = 1 ∧ fI c00 70 4 = 1 ∧ fI c00 70 6 = 0 ∧ fI c00 70 7 = 0) ∧ (aR c00 71 0 = 73 ∧ fI c00 73 7 = 0 ∧ fR c00 73 5 = 2 ∧ fR c00 73 12 = 2 ∧ fI c00 73 11 = -9 ∧ fI c00 73 8 = -1 ∧ fI c00 73 10 = 0 ∧ fI c00 73 9 = 0) ∧ (fI c00 64 12 = 0 ∧ fI c00 64 14 = 0 ∧ fI c00 64 15 = 0 ∧ fI c00 65 4 = 3 ∧ fI c00 65 5 = 40) ∧ (fR c00 176 0 = 177 ∧ fR c00 176 1 = 180 ∧ fR c00 176 6 = 2 ∧ fI c00 176 3 = 0 ∧ fI c00 176 4 = -1 ∧ fI c00 176 5 = -9) := by decide +kernel
theorem n00 : NDb c00 73 0 0 (-9) (-9) ∧ 73 + 1 < nxt c00 := by unfold NDb; decide +kernel
theorem j00 : (jdg s00 (.index 0)).2.2 0 = 0 := by decide +kernel
theorem j01 : (jdg s00 (.index 0)).1 0 = .null ∧ (jdg s00 (.index 0)).2.1 0 = none := by
  have e : jdg s00 (.index 0) = (jen (s00.2 9 ((0 : Nat) : Int)) ((0 : Nat) : Int) none (if s00.2 9 ((0 : Nat) : Int) = 0 then (jin ((0 : Nat) : Int) none J0, .null) else if s00.2 9 ((0 : Nat) : Int) = 1 then (jin ((0 : Nat) : Int) none J0, .result) else if s00.2 9 ((0 : Nat) : Int) = 2 then (jin ((0 : Nat) : Int) none J0, .thrown) else jnm (s00.2 9) (s00.2 11) (s00.2 14) (kks s00) (bds s00 ((0 : Nat) : Int) (s00.2 10 ((0 : Nat) : Int))) ((0 : Nat) : Int) (jin ((0 : Nat) : Int) none J0))).1 := rfl
  rw [e, show (((0 : Nat) : Int)) = 0 from rfl, if_pos r00.1]
  exact ⟨rfl, rfl⟩
theorem q00 : ∀ a : Nat, a < 353 → kl c00 a = 5 → (fR c00 a 12 = 2 ∧ fI c00 a 11 = -9) ∨ a = 73 := by decide +kernel
theorem z00 : ∀ p : Nat, p < 6 → fI c00 (199 + 6 * p) 5 = 0 := by decide +kernel
def nilC (a : Nat) : Bool := match mget HM0 a with
  | some (.inl (_, _, .inr [])) => true
  | _ => false
theorem nilC_ok {a : Nat} (h : nilC a = true) (i : Int) : aR c00 a i = 2 := by
  show rowR HM0 a i = 2
  unfold nilC at h
  split at h
  · rename_i e2
    exact rowR_nil e2 i
  · cases h
theorem x198 (i : Int) : aI c00 198 i = 0 := by
  have h : (match mget HM0 198 with
    | some (.inl (_, _, .inl [])) => true
    | _ => false) = true := by decide +kernel
  show rowI HM0 198 i = 0
  split at h
  · rename_i e2
    exact rowI_nil e2 i
  · cases h
theorem R100 : R1 A00 c00 s00 (.index 0) := by
  obtain ⟨v0, v2, v8, v15, v16, v24, v35, v56, v60, v61, v63, v71⟩ := v00
  obtain ⟨r9, r10, r11, r12, r13⟩ := r00
  obtain ⟨⟨d1, d2, d3, d4, d6, d7⟩, ⟨e1, e2, e3, e4, e5, e6, e7, e8⟩, ⟨f1, f2, f3, f4, f5⟩, -⟩ := w00
  have hx : ∀ x, x ∈ fl (.index 0) → x = 0 := fun x h => List.mem_singleton.mp h
  have KJ0 : KJc c00 := ⟨⟨by rw [f4]; omega, fun k k0 k3 => by
    obtain ⟨j, rfl⟩ : ∃ j : Nat, k = j := ⟨k.toNat, by omega⟩
    exact (k00 j (by omega)).2, fun k k3 kn => by omega⟩, by omega, fun k k1 k2 => by omega⟩
  refine ⟨⟨FIX00, ⟨fun b hb => ?_, fun b b0 b1 => ?_⟩, ⟨fun x hx' => ?_, d1⟩, d3, fun j x hj => ?_⟩, ⟨by rw [v16]; exact d2, by rw [v8]; exact d4⟩, ⟨by rw [v2]; exact f4, fun k k0 k1 => ?_⟩, KJ0, by omega, fun x hx' => ?_⟩
  · unfold A00
    rw [if_neg (by omega)]
  · obtain rfl : b = 0 := by omega
    rw [r9, r10, r11]
    exact ⟨n00.1, n00.2, Or.inl rfl⟩
  · rw [hx x hx', r12, r9]
    refine ⟨e3, fun q => absurd rfl q, fun i i0 i1 => ?_⟩
    have : pO 0 = 0 := by decide
    omega
  · cases j with
    | zero =>
      have : x = 0 := by
        simp [fl] at hj
        omega
      rw [this]
      exact ⟨e1, e2⟩
    | succ j => simp [fl] at hj
  · obtain ⟨j, rfl⟩ : ∃ j : Nat, k = j := ⟨k.toNat, by omega⟩
    obtain ⟨⟨p1, p2, p3, p4⟩, q1, q2, q3, q4⟩ := k00 j (by omega)
    rw [p1, p2, p3, p4]
    exact ⟨q1, q2, q3, q4⟩
  · rw [hx x hx', j00, j01.1, j01.2]
    have : A00 0 = 73 := rfl
    rw [this, e6, e7, e8]
    refine ⟨⟨Or.inl (by omega), ?_⟩, rfl, rfl, by decide, by decide⟩
    exact (kt_leaf KJ0).1 (k00 0 (by omega)).2.1
theorem PAIR00 : PAIR 0 s00 c00 := by
  obtain ⟨v0, v2, v8, v15, v16, v24, v35, v56, v60, v61, v63, v71⟩ := v00
  obtain ⟨⟨d1, d2, d3, d4, d6, d7⟩, ⟨e1, e2, e3, e4, e5, e6, e7, e8⟩, ⟨f1, f2, f3, f4, f5⟩, g0, g1, g6, g3, g4, g5⟩ := w00
  have nv : ¬ hasV s00 := by unfold hasV; omega
  have n178 : ∀ i, aR c00 178 i = 2 := nilC_ok (by decide +kernel)
  have n179 : ∀ i, aR c00 179 i = 2 := nilC_ok (by decide +kernel)
  have n181 : ∀ i, aR c00 181 i = 2 := nilC_ok (by decide +kernel)
  have n182 : ∀ i, aR c00 182 i = 2 := nilC_ok (by decide +kernel)
  have n197 : ∀ i, aR c00 197 i = 2 := nilC_ok (by decide +kernel)
  have hp : ∀ r, (r = 1 ∨ r = 2) → ∀ p, (p = 177 ∨ p = 180) → ∀ i, aR c00 (p + r) i = 2 := fun r hr p hp i => by
    rcases hr with rfl | rfl <;> rcases hp with rfl | rfl
    · exact n178 i
    · exact n181 i
    · exact n179 i
    · exact n182 i
  have pl : ∀ q, (q = 177 ∨ q = 180) → (0 ≤ fI c00 q 2 ∧ fI c00 q 2 ≤ 620) ∧ 0 ≤ fI c00 q 3 ∧ fI c00 q 3 ≤ 320 := fun q hq => by
    rcases hq with rfl | rfl <;> decide +kernel
  refine ⟨A00, .index 0, [], fun _ => none, .null, [], MS00, ⟨R100, ⟨⟨by rw [v71]; exact f1, fun i i0 i8 => ?_⟩, ⟨by rw [v0]; exact f2, fun f _ _ => by rw [x198, nilM_ok m1]⟩, TR00⟩, ⟨⟨d7, by decide, by omega, by omega⟩, fun i u h => by simp at h⟩, fun p hp => ⟨fun _ => z00 p hp, fun u h => by cases h⟩⟩, ⟨177, 180, ⟨Or.inl ⟨rfl, rfl⟩, g0, g1, fun q hq => ⟨pl q hq, fun i _ _ => Or.inl (hp 1 (Or.inl rfl) q hq i), fun i _ _ => Or.inl (hp 2 (Or.inr rfl) q hq i)⟩, fun p q i j h1 h2 _ _ _ _ _ hn => absurd (hp 1 (Or.inl rfl) p h1 i) hn, fun p q i j h1 h2 _ _ _ _ _ hn => absurd (hp 2 (Or.inr rfl) p h1 i) hn⟩, ⟨fun h => absurd h nv, fun _ => g6⟩, ⟨by rw [v56]; exact g3, by rw [v60]; exact g5⟩, by rw [g4, v61]; rfl⟩, ⟨⟨fun _ => v35, fun _ => f3⟩, fun a ha hk => ?_, fun b hb => ?_, fun _ => ⟨fun b b0 b1 h => ?_, fun b hb => ?_⟩⟩⟩
  · rw [n197, nilM_ok m72]
    rfl
  · rcases q00 a ha hk with h | h
    · exact Or.inl h
    · exact Or.inr ⟨0, by omega, by omega, h⟩
  · rw [List.mem_singleton.mp hb]
    exact e4
  · rw [nilM_ok m42] at h
    omega
  · rw [List.mem_singleton.mp hb]
    exact e5
