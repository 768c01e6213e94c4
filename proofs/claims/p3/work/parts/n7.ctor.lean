/-! Both constructors, for any script. -/
def meqB (a b : ME) : Bool := match a, b with
  | .inl (t, n, .inl f), .inl (t2, n2, .inl f2) => decide (t = t2) && (decide (n = n2) && decide (f = f2))
  | .inl (t, n, .inr f), .inl (t2, n2, .inr f2) => decide (t = t2) && (decide (n = n2) && decide (f = f2))
  | .inr (c, fs), .inr (c2, fs2) => decide (c = c2) && decide (fs = fs2)
  | _, _ => false
theorem meqB_ok {a b : ME} (h : meqB a b = true) : a = b := by
  unfold meqB at h
  split at h
  · simp only [Bool.and_eq_true, decide_eq_true_eq] at h
    obtain ⟨rfl, rfl, rfl⟩ := h
    rfl
  · simp only [Bool.and_eq_true, decide_eq_true_eq] at h
    obtain ⟨rfl, rfl, rfl⟩ := h
    rfl
  · simp only [Bool.and_eq_true, decide_eq_true_eq] at h
    obtain ⟨rfl, rfl⟩ := h
    rfl
  · cases h
def leqB (a b : List ME) : Bool := match a, b with
  | [], [] => true
  | x :: r, y :: t => meqB x y && leqB r t
  | _, _ => false
theorem leqB_ok : ∀ {a b : List ME}, leqB a b = true → a = b := by
  intro a
  induction a with
  | nil => intro b h; cases b with
    | nil => rfl
    | cons _ _ => cases h
  | cons x r ih => intro b h; cases b with
    | nil => cases h
    | cons y t =>
      have h : (meqB x y && leqB r t) = true := h
      simp only [Bool.and_eq_true] at h
      rw [meqB_ok h.1, ih h.2]
def rqB (r : Option (Option Value × MH × Nat × Nat)) (h : MH) (k n : Nat) : Bool := match r with
  | some (none, h1, k1, n1) => decide (h1.1 = h.1) && (leqB h1.2 h.2 && (decide (k1 = k) && decide (n1 = n)))
  | _ => false
theorem rqB_ok {r : Option (Option Value × MH × Nat × Nat)} {h : MH} {k n : Nat} (e : rqB r h k n = true) : r = some (none, h, k, n) := by
  unfold rqB at e
  split at e
  · rename_i h1 k1 n1
    obtain ⟨u, w⟩ := h1
    obtain ⟨u2, w2⟩ := h
    simp only [Bool.and_eq_true, decide_eq_true_eq] at e
    obtain ⟨rfl, e2, rfl, rfl⟩ := e
    rw [leqB_ok e2]
  · cases e
theorem ctx_n : rqB (mrun iv6 mGn 20000 29 1 0 [(0, .ref 64)] [] (65, [.inr (0, bls.getD 0 [])]) 0 0) HX0 242 24762 = true := by decide +kernel
theorem ctm_n : rqB (mrun iv6 mGn 20000 29 59 0 [(0, .ref 307)] [] (mpush HX0 (.inr (12, bls.getD 12 []))) 0 0) HM0 45 119792 = true := by decide +kernel
theorem ctor_x {iv : List (Int × Int)} {L : Nat} (h6 : 6 ≤ iv.length) (hI : ∀ j, j < 6 → ∃ a, iv[j]? = some (a, a)) : mrun iv (mG L (fun _ => 0)) 20000 29 1 0 [(0, .ref 64)] [] (65, [.inr (0, bls.getD 0 [])]) 0 0 = some (none, HX0, 242, 24762) := run_ext h6 hI _ _ _ _ _ _ _ _ _ _ (rqB_ok ctx_n)
theorem ctor_m {iv : List (Int × Int)} {L : Nat} (h6 : 6 ≤ iv.length) (hI : ∀ j, j < 6 → ∃ a, iv[j]? = some (a, a)) : mrun iv (mG L (fun _ => 0)) 20000 29 59 0 [(0, .ref 307)] [] (mpush HX0 (.inr (12, bls.getD 12 []))) 0 0 = some (none, HM0, 45, 119792) := run_ext h6 hI _ _ _ _ _ _ _ _ _ _ (rqB_ok ctm_n)
