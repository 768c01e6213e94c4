/-! The smallest methods. -/
/-- HoleDeskModel.in(III)Z -/
theorem B60 {iv : List (Int × Int)} {L : Nat} {h0 : MH} {d : Nat} {s : SM} {a1 : Int} {a2 : Int} {a3 : Int} {F : Int → SM → Prop} (H : ((a1 < a2 → F 0 s) ∧ (a2 ≤ a1 → ((a3 < a1 → F 0 s) ∧ (a1 ≤ a3 → F 1 s))))) : cm iv L h0 d 60 [vi a1, vi a2, vi a3] s (qi F) := by
  show wm iv L h0 d 60 0 [li a1, li a2, li a3] [] s (qi F)
  refine w_iload_n rfl rfl ?_
  refine w_iload_n rfl rfl ?_
  refine w_icmp_lt rfl (fun h => ?_) (fun h => ?_)
  · replace H := H.1 h
    refine w_iconst (n := 0) rfl rfl ?_
    exact w_iretz rfl rfl (by decide) ⟨_, rfl, H⟩
  · replace H := H.2 h
    refine w_iload_n rfl rfl ?_
    refine w_iload_n rfl rfl ?_
    refine w_icmp_gt rfl (fun h => ?_) (fun h => ?_)
    · replace H := H.1 h
      refine w_iconst (n := 0) rfl rfl ?_
      exact w_iretz rfl rfl (by decide) ⟨_, rfl, H⟩
    · replace H := H.2 h
      refine w_iconst (n := 1) rfl rfl ?_
      refine w_goto rfl ?_
      exact w_iretz rfl rfl (by decide) ⟨_, rfl, H⟩

/-- HoleDeskModel.isKind(I)Z -/
theorem B67 {iv : List (Int × Int)} {L : Nat} {h0 : MH} {d : Nat} {s : SM} {a1 : Int} {F : Int → SM → Prop} (H : (-2147483648 ≤ (s.1 2) - 1 ∧ (s.1 2) - 1 ≤ 2147483647) ∧ cm iv L h0 d 60 [vi a1, vi 0, vi ((s.1 2) - 1)] s (qi fun r3 s2 => (r3 = 0 ∨ r3 = 1) ∧ F r3 s2)) : cm iv L h0 (d + 1) 67 [vr 307, vi a1] s (qi F) := by
  show wm iv L h0 (d + 1) 67 0 [lr 307, li a1] [] s (qi F)
  refine w_iload_n rfl rfl ?_
  refine w_iconst (n := 0) rfl rfl ?_
  refine w_aload_n rfl rfl ?_
  refine m_get rfl rfl ?_
  refine w_iconst (n := 1) rfl rfl ?_
  obtain ⟨g1, H⟩ := H
  refine w_isub rfl g1 ?_
  refine w_static (as := [vi a1, vi 0, vi ((s.1 2) - 1)]) (r := []) rfl rfl rfl rfl rfl (wc_mono H (Nat.le_refl _) ?_)
  rintro _ s2 ⟨r3, rfl, H⟩
  show wm iv L h0 (d + 1) 67 11 [lr 307, li a1] [vi r3] s2 (qi F)
  obtain ⟨g4, H⟩ := H
  exact w_iretz rfl rfl g4 ⟨_, rfl, H⟩

/-- HoleDeskModel.partsOf(I)I -/
theorem B73 {iv : List (Int × Int)} {L : Nat} {h0 : MH} {d : Nat} {s : SM} {a1 : Int} {F : Int → SM → Prop} (H : ((a1 = 0 ∨ a1 = 1 ∨ a1 = 2 ∨ a1 = 3 → F 0 s) ∧ (a1 = 4 ∨ a1 = 5 ∨ a1 = 6 ∨ a1 = 7 ∨ a1 = 9 ∨ a1 = 10 ∨ a1 = 12 ∨ a1 < 0 ∨ 15 < a1 → F 2 s) ∧ (a1 = 8 ∨ a1 = 13 ∨ a1 = 14 ∨ a1 = 15 → F 1 s) ∧ (a1 = 11 → F 3 s))) : cm iv L h0 d 73 [vi a1] s (qi F) := by
  show wm iv L h0 d 73 0 [li a1] [] s (qi F)
  refine w_iload_n rfl rfl ?_
  have J80 : (a1 = 0 ∨ a1 = 1 ∨ a1 = 2 ∨ a1 = 3) → wm iv L h0 d 73 80 [li a1] [] s (qi F) := fun h => by
    replace H := H.1 h
    refine w_iconst (n := 0) rfl rfl ?_
    exact w_iret rfl rfl ⟨_, rfl, H⟩
  have J86 : (a1 = 4 ∨ a1 = 5 ∨ a1 = 6 ∨ a1 = 7 ∨ a1 = 9 ∨ a1 = 10 ∨ a1 = 12 ∨ a1 < 0 ∨ 15 < a1) → wm iv L h0 d 73 86 [li a1] [] s (qi F) := fun h => by
    replace H := H.2.1 h
    refine w_iconst (n := 2) rfl rfl ?_
    exact w_iret rfl rfl ⟨_, rfl, H⟩
  have J82 : (a1 = 8 ∨ a1 = 13 ∨ a1 = 14 ∨ a1 = 15) → wm iv L h0 d 73 82 [li a1] [] s (qi F) := fun h => by
    replace H := H.2.2.1 h
    refine w_iconst (n := 1) rfl rfl ?_
    exact w_iret rfl rfl ⟨_, rfl, H⟩
  have J84 : (a1 = 11) → wm iv L h0 d 73 84 [li a1] [] s (qi F) := fun h => by
    replace H := H.2.2.2 h
    refine w_iconst (n := 3) rfl rfl ?_
    exact w_iret rfl rfl ⟨_, rfl, H⟩
  refine w_tsw (td := 86) (ts := [80, 80, 80, 80, 86, 86, 86, 86, 82, 86, 86, 84, 86, 82, 82, 82]) rfl rfl rfl rfl rfl rfl (fun h => J86 (by omega)) ?_
  exact swA_c (fun h => J80 (by omega)) (swA_c (fun h => J80 (by omega)) (swA_c (fun h => J80 (by omega)) (swA_c (fun h => J80 (by omega)) (swA_c (fun h => J86 (by omega)) (swA_c (fun h => J86 (by omega)) (swA_c (fun h => J86 (by omega)) (swA_c (fun h => J86 (by omega)) (swA_c (fun h => J82 (by omega)) (swA_c (fun h => J86 (by omega)) (swA_c (fun h => J86 (by omega)) (swA_c (fun h => J84 (by omega)) (swA_c (fun h => J86 (by omega)) (swA_c (fun h => J82 (by omega)) (swA_c (fun h => J82 (by omega)) (swA_c (fun h => J82 (by omega)) (swA_n))))))))))))))))

theorem wq {S : Type} {iv : List (Int × Int)} {L : Nat} {Rp : S → MH → Prop} {cs : S → Nat × Nat} {d M : Nat} {as : List VV} {s : S} {Q : Option VV → S → Prop} (h : wc iv L Rp cs d M as s (qi fun z t => Q (some (vi z)) t)) : wc iv L Rp cs d M as s Q := wc_mono h (Nat.le_refl _) (by rintro _ t ⟨z, rfl, h⟩; exact h)
theorem m_in {iv : List (Int × Int)} {L : Nat} {h0 : MH} {d : Nat} {s : SM} {a b c : Int} {Q : Option VV → SM → Prop} (h1 : b ≤ a ∧ a ≤ c → Q (some (vi 1)) s) (h2 : a < b ∨ c < a → Q (some (vi 0)) s) : cm iv L h0 d 60 [vi a, vi b, vi c] s Q := by
  refine wq (B60 ?_)
  constructor
  · intro h
    exact h2 (Or.inl h)
  · intro h
    constructor
    · intro h3
      exact h2 (Or.inr h3)
    · intro h3
      exact h1 ⟨h, h3⟩
theorem m_isKind {iv : List (Int × Int)} {L : Nat} {h0 : MH} {d : Nat} {s : SM} {a : Int} {Q : Option VV → SM → Prop} (hr : 3 ≤ s.1 2 ∧ s.1 2 ≤ 40) (h1 : 0 ≤ a ∧ a < s.1 2 → Q (some (vi 1)) s) (h2 : a < 0 ∨ s.1 2 ≤ a → Q (some (vi 0)) s) : cm iv L h0 (d + 1) 67 [vr 307, vi a] s Q := by
  refine wq (B67 ⟨by omega, m_in (fun h => ?_) (fun h => ?_)⟩)
  · exact ⟨1, rfl, Or.inr rfl, h1 (by omega)⟩
  · exact ⟨0, rfl, Or.inl rfl, h2 (by omega)⟩
theorem m_parts {iv : List (Int × Int)} {L : Nat} {h0 : MH} {d : Nat} {s : SM} {a : Int} {Q : Option VV → SM → Prop} (hg : 0 ≤ a ∧ a < 16) (h : Q (some (vi (pO a))) s) : cm iv L h0 d 73 [vi a] s Q := by
  refine wq (B73 ⟨fun e => ?_, fun e => ?_, fun e => ?_, fun e => ?_⟩)
  · have e1 : pO a = 0 := by rcases e with rfl | rfl | rfl | rfl <;> rfl
    rw [e1] at h
    exact h
  · have e1 : pO a = 2 := by rcases e with rfl | rfl | rfl | rfl | rfl | rfl | rfl | e | e <;> first | rfl | (exfalso; omega)
    rw [e1] at h
    exact h
  · have e1 : pO a = 1 := by rcases e with rfl | rfl | rfl | rfl <;> rfl
    rw [e1] at h
    exact h
  · have e1 : pO a = 3 := by subst e; rfl
    rw [e1] at h
    exact h
