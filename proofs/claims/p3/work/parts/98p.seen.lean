/-! left(k), seen(k, x, i). -/
def HLE (s : SM) (X : Term) : Prop := ∃ (b : Nat) (E : Term), X = .div (.index b) E ∧ isE 26 E ∧ VB s E
theorem gd_h {P : Term → Prop} {o x : List Int × List Term} (h : ∀ X, X ∈ o.2 → P X) (hx : ∀ X, X ∈ x.2 → P X) : ∀ X, X ∈ (gd o x).2 → P X := by
  unfold gd
  split
  · exact h
  · exact hx
theorem outT_h {s : SM} {so : Int → Int} : ∀ (n : Nat) (V : Term), SizeOf.sizeOf V < n → isV V = true → VB s V → ∀ (o : List Int × List Term), (∀ X, X ∈ o.2 → HLE s X) → ∀ X, X ∈ (outT so V o).2 → HLE s X := by
  intro n
  induction n with
  | zero => intro V hn; omega
  | succ n ih =>
    intro V hn hv hV o ho
    cases V with
    | int z => exact gd_h (x := pN z.toInt o) ho ho
    | arg z => exact gd_h (x := pW (if z = 1 then 19 else 20) o) ho ho
    | index x => exact gd_h (x := pB (97 + x) (pB 33 o)) ho ho
    | sub x E =>
      cases x with
      | index x => exact gd_h (x := pN x (pB 100 o)) ho ho
      | _ => cases hv
    | add A B =>
      refine gd_h (x := pB 93 (outT so B (pB 32 (outT so A (pB 91 o))))) ho ?_
      exact ih B (by simp at hn; omega) hV.2.1 hV.2.2 _ (ih A (by simp at hn; omega) hV.1.1 hV.1.2 _ ho)
    | div x E =>
      cases x with
      | index x =>
        refine gd_h (x := pN x (pB 63 (o.1, o.2 ++ [.div (.index x) E]))) ho (fun X hX => ?_)
        rcases List.mem_append.mp hX with hX | hX
        · exact ho X hX
        · rw [List.mem_singleton.mp hX]
          exact ⟨x, E, rfl, hV.2⟩
      | _ => cases hv
    | length A =>
      refine gd_h (x := pB 125 (outT so A (pB 123 o))) ho ?_
      exact ih A (by simp at hn; omega) hV.1 hV.2 _ ho
    | rem x q =>
      cases x with
      | index x =>
        cases q with
        | elem A q =>
          cases q with
          | elem B E =>
            obtain ⟨⟨b1, a1, a2⟩, hB, -⟩ := hV
            have r1 : ∀ X, X ∈ (outT so A (pB 32 (pW (wrd (so x)) (pB 40 o)))).2 → HLE s X := ih A (by simp at hn; omega) a1 a2 _ ho
            have z : ∀ (o' : List Int × List Term), (∀ X, X ∈ o'.2 → HLE s X) → ∀ X, X ∈ (outZ (so x) x o').2 → HLE s X := fun o' h' => by
              unfold outZ
              split <;> exact h'
            refine gd_h (x := outZ (so x) x (if isV B = true then outT so B (pB 32 (outT so A (pB 32 (pW (wrd (so x)) (pB 40 o))))) else outT so A (pB 32 (pW (wrd (so x)) (pB 40 o))))) ho (z _ ?_)
            split
            · next hvB =>
              rcases hB with hB | hB
              · exact ih B (by simp at hn; omega) hB.1 hB.2 _ r1
              · rw [hB] at hvB; cases hvB
            · exact r1
          | _ => cases hv
        | _ => cases hv
      | _ => cases hv
    | _ => cases hv
/-- what is seen from a hole at a letter -/
def seeV (s : SM) (V : Term) (k x : Int) : Term := match (wrt s V).2.getD k.toNat .null with
  | .div _ E => lkE E x
  | _ => .null
section
variable {iv : List (Int × Int)} {L : Nat} {h0 : MH} {s : SM} {V : Term} {d : Nat}
theorem wrt_h (hV : isV V = true ∧ VB s V) : ∀ X, X ∈ (wrt s V).2 → HLE s X := outT_h (SizeOf.sizeOf V + 1) V (Nat.lt_succ_self _) hV.1 hV.2 _ (fun X hX => by cases hX)
theorem left_ok {k : Int} {F : Int → SM → Prop} (h8 : s.1 8 ≤ 3000) (hV : VK s V) (hd : 407 ≤ d) (H0 : ¬ hasV s → F (-9) s) (H1 : ∀ w, hasV s → eqx [67, 69] [66, 68, 70] s w → F (lefA s V k) w) : cm iv L h0 d 149 [vr 307, vi k] s (qi F) := by
  obtain ⟨d, rfl⟩ : ∃ k, d = k + 1 := ⟨d - 1, by omega⟩
  refine B149 (has_ok (fun q => ⟨fun _ => ?_, fun q2 => by cases q2⟩) (fun q => ⟨fun q2 => absurd rfl q2, fun _ => H0 q⟩))
  obtain ⟨⟨b1, b2, b3⟩, v1, v2⟩ := hV q
  refine write1_ok (by omega) h8 ⟨v1.1, v2⟩ v1.2 eqx.rf (by omega) (fun u hu => ?_)
  have H1 := H1 u q hu.1
  have l1 := hu.2.1.1
  have l2 := hu.2.2.1
  unfold lefA at H1
  refine ⟨by omega, fun q2 => ?_, fun q2 => ?_⟩
  · obtain ⟨c1, c2, -⟩ := lef_at (k := k) (by omega) hu q2.1 (by omega) (fun X hX => by obtain ⟨b, E, e, -⟩ := wrt_h ⟨v1.1, v2⟩ X hX; exact ⟨b, E, e⟩)
    rw [if_pos (by omega)] at H1
    refine ⟨by omega, c1, ?_⟩
    rw [c2]
    exact H1
  · rw [if_neg (by omega)] at H1
    exact H1
end
