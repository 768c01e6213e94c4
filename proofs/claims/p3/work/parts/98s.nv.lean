/-! Numbers and kinds are borne just where a sort bears them: kept by what writes and by what is born. -/
theorem NV_ag {s w : SM} (h : NV s) (h8 : w.1 8 = s.1 8) (hr : ∀ y, 0 ≤ y → y < s.1 8 → w.2 9 y = s.2 9 y ∧ w.2 10 y = s.2 10 y ∧ w.2 11 y = s.2 11 y) : NV w := fun x x0 x1 => by
  obtain ⟨a, b, c⟩ := hr x x0 (by omega)
  rw [a, b, c]
  exact h x x0 (by omega)
theorem NV_new {s w : SM} {so v k : Int} (h : NV s) (h8 : w.1 8 = s.1 8 + 1) (hn : w.2 9 (s.1 8) = so ∧ w.2 10 (s.1 8) = nvl so v ∧ w.2 11 (s.1 8) = kvl so k) (hr : ∀ y, 0 ≤ y → y < s.1 8 → w.2 9 y = s.2 9 y ∧ w.2 10 y = s.2 10 y ∧ w.2 11 y = s.2 11 y) : NV w := fun x x0 x1 => by
  by_cases e : x < s.1 8
  · obtain ⟨a, b, c⟩ := hr x x0 e
    rw [a, b, c]
    exact h x x0 e
  · obtain rfl : x = s.1 8 := by omega
    obtain ⟨a, b, c⟩ := hn
    rw [a, b, c]
    unfold nvl kvl
    refine ⟨?_, ?_⟩
    · split <;> rfl
    · split <;> rfl
theorem NV_write {s : SM} {v : Int} (h : NV s) (hc : 0 ≤ s.1 16 ∧ s.1 16 < s.1 8) (hg : wriOk s v) : NV (ua s 10 (s.1 16) v) := fun x x0 x1 => by
  have e9 : (ua s 10 (s.1 16) v).2 9 = s.2 9 := by
    funext y
    simp only [ua_2]
    exact if_neg (fun q => absurd q.1 (by decide))
  have e11 : (ua s 10 (s.1 16) v).2 11 = s.2 11 := by
    funext y
    simp only [ua_2]
    exact if_neg (fun q => absurd q.1 (by decide))
  have h0 := h x x0 x1
  rw [e9, e11]
  refine ⟨?_, h0.2⟩
  show nvl (s.2 9 x) (if 10 = 10 ∧ x = s.1 16 then v else s.2 10 x) = (if 10 = 10 ∧ x = s.1 16 then v else s.2 10 x)
  by_cases e : x = s.1 16
  · rw [if_pos ⟨rfl, e⟩, e]
    exact if_pos (by have := hg.1; omega)
  · rw [if_neg (fun q => e q.2)]
    exact h0.1
