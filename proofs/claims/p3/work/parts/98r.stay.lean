/-! What was worked out outlives acts. -/
theorem VB_up {s w : SM} (h8 : s.1 8 ≤ w.1 8) : ∀ (n : Nat) (V : Term), SizeOf.sizeOf V < n → VB s V → VB w V := by
  intro n
  induction n with
  | zero => intro V h; omega
  | succ n ih =>
    intro V hn h
    cases V with
    | int z => trivial
    | arg z => exact h
    | index x => exact h
    | null => trivial
    | sub d E =>
      cases d with
      | index d => exact ⟨Int.lt_of_lt_of_le h.1 h8, h.2.1, ih E (by simp at hn; omega) h.2.2⟩
      | _ => exact h.elim
    | add A B => exact ⟨⟨h.1.1, ih A (by simp at hn; omega) h.1.2⟩, h.2.1, ih B (by simp at hn; omega) h.2.2⟩
    | div d E =>
      cases d with
      | index b => exact ⟨Int.lt_of_lt_of_le h.1 h8, h.2.1, ih E (by simp at hn; omega) h.2.2⟩
      | _ => exact h.elim
    | length A => exact ⟨h.1, ih A (by simp at hn; omega) h.2⟩
    | rem b q =>
      cases b with
      | index b =>
        cases q with
        | elem A q =>
          cases q with
          | elem B E =>
            obtain ⟨⟨b1, a1, a2⟩, hB, hE⟩ := h
            exact ⟨⟨Int.lt_of_lt_of_le b1 h8, a1, ih A (by simp at hn; omega) a2⟩, hB.imp (fun q => ⟨q.1, ih B (by simp at hn; omega) q.2⟩) id, hE.imp (fun q => ⟨q.1, ih E (by simp at hn; omega) q.2⟩) id⟩
          | _ => exact h.elim
        | _ => exact h.elim
      | _ => exact h.elim
    | mul r x =>
      have h : VB s r ∧ (x = .null ∨ (isV x = true ∧ VB s x)) := h
      exact ⟨ih r (by simp at hn; omega) h.1, h.2.imp id (fun q => ⟨q.1, ih x (by simp at hn; omega) q.2⟩)⟩
    | _ => exact h.elim
theorem outT_cg {s : SM} {so so' : Int → Int} (hs : ∀ b : Nat, (b : Int) < s.1 8 → so' b = so b) : ∀ (n : Nat) (V : Term), SizeOf.sizeOf V < n → isV V = true → VB s V → ∀ o, outT so' V o = outT so V o := by
  intro n
  induction n with
  | zero => intro V h; omega
  | succ n ih =>
    intro V hn hv h o
    cases V with
    | add A B =>
      show gd o (pB 93 (outT so' B (pB 32 (outT so' A (pB 91 o))))) = gd o (pB 93 (outT so B (pB 32 (outT so A (pB 91 o)))))
      rw [ih A (by simp at hn; omega) h.1.1 h.1.2, ih B (by simp at hn; omega) h.2.1 h.2.2]
    | length A =>
      show gd o (pB 125 (outT so' A (pB 123 o))) = gd o (pB 125 (outT so A (pB 123 o)))
      rw [ih A (by simp at hn; omega) h.1 h.2]
    | rem b q =>
      cases b with
      | index x =>
        cases q with
        | elem A q =>
          cases q with
          | elem B E =>
            obtain ⟨⟨b1, a1, a2⟩, hB, -⟩ := h
            show gd o (outZ (so' x) x (if isV B = true then outT so' B (pB 32 (outT so' A (pB 32 (pW (wrd (so' x)) (pB 40 o))))) else outT so' A (pB 32 (pW (wrd (so' x)) (pB 40 o))))) = gd o (outZ (so x) x (if isV B = true then outT so B (pB 32 (outT so A (pB 32 (pW (wrd (so x)) (pB 40 o))))) else outT so A (pB 32 (pW (wrd (so x)) (pB 40 o)))))
            rw [hs x b1, ih A (by simp at hn; omega) a1 a2]
            by_cases q : isV B = true
            · rcases hB with hB | hB
              · rw [if_pos q, if_pos q, ih B (by simp at hn; omega) hB.1 hB.2]
              · rw [hB] at q; cases q
            · rw [if_neg q, if_neg q]
          | _ => cases hv
        | _ => cases hv
      | _ => cases hv
    | int z => rfl
    | arg z => rfl
    | index x => rfl
    | sub x E =>
      cases x with
      | index x => rfl
      | _ => cases hv
    | div x E =>
      cases x with
      | index x => rfl
      | _ => cases hv
    | _ => cases hv
/-- the bytes of a value stay while births and sorts do -/
theorem wrt_cg {s w : SM} {V : Term} (hV : isV V = true ∧ VB s V) (hs : ∀ b : Nat, (b : Int) < s.1 8 → w.2 9 b = s.2 9 b) : wrt w V = wrt s V := outT_cg hs (SizeOf.sizeOf V + 1) V (Nat.lt_succ_self _) hV.1 hV.2 _
