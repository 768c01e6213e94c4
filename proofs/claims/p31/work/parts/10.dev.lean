/-! dev: what the contracts need of the machine. -/
theorem if_ok {α : Type} {c : Prop} {_d : Decidable c} {a : Option α} {z : α} (h : (if c then a else none) = some z) : c ∧ a = some z := by
  by_cases hc : c
  · rw [if_pos hc] at h
    exact ⟨hc, h⟩
  · rw [if_neg hc] at h
    cases h
theorem mget_lt {h : MH} (hk : h.1 = h.2.length + 64) {a : Nat} {e : ME} (hg : mget h a = some e) : 64 ≤ a ∧ a < h.1 := by
  unfold mget at hg
  by_cases h1 : a < h.1
  · rw [if_pos h1] at hg
    have := (List.getElem?_eq_some_iff.mp hg).1
    omega
  · rw [if_neg h1] at hg
    cases hg
theorem mput_ok {h : MH} (hk : h.1 = h.2.length + 64) (a : Nat) (e : ME) : (mput h a e).1 = (mput h a e).2.length + 64 := by
  simp [mput, hk]
