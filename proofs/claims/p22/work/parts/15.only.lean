/-! Which kind of step an instruction makes. -/
theorem okk_only {nx : Nat} {ls : ML} {st : List Value} {h : MH} {z : ST} (e : okk nx ls st h = some z) : ∃ q, z = .inl q := by
  unfold okk at e
  cases e
  exact ⟨_, rfl⟩
section SO
variable {iv : List (Int × Int)} {G : GI} {M pc nx x y : Nat} {i : Instr} {ls : ML} {st : List Value} {h : MH} {z : ST}
theorem on_only (hk : ikd i = 0) (hz : stepI iv G M pc i nx x y ls st h = some z) : ∃ q, z = .inl q := by
  cases i <;> first
    | (exact absurd (show (1 : Nat) = 0 from hk) (by decide)) | (exact absurd (show (2 : Nat) = 0 from hk) (by decide)) | (exact absurd (show (3 : Nat) = 0 from hk) (by decide)) | (exact absurd (show (4 : Nat) = 0 from hk) (by decide))
    | (exact okk_only hz)
    | (cases hz; exact ⟨_, rfl⟩)
    | (simp only [stepI, stload, ststore1, ststore2, s2i, s2l, s1i, s1l, s1r, s1n, s1] at hz
       repeat' split at hz
       all_goals first | (cases hz; done) | (exact okk_only hz) | (cases hz; exact ⟨_, rfl⟩))
theorem br_only (hk : ikd i = 1) (hz : stepI iv G M pc i nx x y ls st h = some z) : ∃ alts ls' st', z = .inr (.inr (.inr (alts, ls', st'))) := by
  cases i <;> first
    | (exact absurd (show (0 : Nat) = 1 from hk) (by decide)) | (exact absurd (show (2 : Nat) = 1 from hk) (by decide)) | (exact absurd (show (3 : Nat) = 1 from hk) (by decide)) | (exact absurd (show (4 : Nat) = 1 from hk) (by decide))
    | (simp only [stepI, brr, s2i, s1i, s1n, s1] at hz
       repeat' split at hz
       all_goals first | (cases hz; done) | (cases hz; exact ⟨_, _, _, rfl⟩))
theorem rt_only (hk : ikd i = 2) (hz : stepI iv G M pc i nx x y ls st h = some z) : ∃ v, z = .inr (.inr (.inl v)) := by
  cases i <;> first
    | (exact absurd (show (0 : Nat) = 2 from hk) (by decide)) | (exact absurd (show (1 : Nat) = 2 from hk) (by decide)) | (exact absurd (show (3 : Nat) = 2 from hk) (by decide)) | (exact absurd (show (4 : Nat) = 2 from hk) (by decide))
    | (simp only [stepI] at hz
       repeat' split at hz
       all_goals first | (cases hz; done) | (cases hz; exact ⟨_, rfl⟩))
theorem no_only (hk : ikd i = 4) (hz : stepI iv G M pc i nx x y ls st h = some z) : False := by
  cases i <;> first
    | (exact absurd (show (0 : Nat) = 4 from hk) (by decide)) | (exact absurd (show (1 : Nat) = 4 from hk) (by decide)) | (exact absurd (show (2 : Nat) = 4 from hk) (by decide)) | (exact absurd (show (3 : Nat) = 4 from hk) (by decide))
    | (cases hz; done)
end SO
