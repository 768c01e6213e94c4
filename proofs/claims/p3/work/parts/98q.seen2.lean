/-! seen(k, x, i). -/
theorem VB_lk {s : SM} : ∀ (E : Term) (x : Int), VB s E → lkE E x ≠ .null → isV (lkE E x) = true ∧ VB s (lkE E x) := by
  intro E
  induction E with
  | mul r y ihr _ =>
    intro x h hn
    have h : VB s r ∧ (y = .null ∨ (isV y = true ∧ VB s y)) := h
    unfold lkE at hn ⊢
    split
    · next q =>
      rw [if_pos q] at hn
      exact h.2.resolve_left hn
    · next q =>
      rw [if_neg q] at hn
      exact ihr x h.1 hn
  | _ => intro x h hn; exact absurd rfl hn
/-- the answer of seen -/
def senA (s : SM) (V : Term) (k x i : Int) : Int := if 0 ≤ k ∧ k < (wrt s V).2.length ∧ seeV s V k x ≠ .null then atB (wrt s (seeV s V k x)).1 i else -9
section
variable {iv : List (Int × Int)} {L : Nat} {h0 : MH} {s : SM} {V : Term} {d : Nat}
theorem seen_ok {k x i : Int} {F : Int → SM → Prop} (h8 : s.1 8 ≤ 3000) (hV : VK s V) (hd : 407 ≤ d) (H0 : ¬ (0 ≤ x ∧ x ≤ 25) → F (-1) s) (H1 : (0 ≤ x ∧ x ≤ 25) → ¬ hasV s → F (-9) s) (H2 : ∀ w, (0 ≤ x ∧ x ≤ 25) → hasV s → eqx [67, 69] [66, 68, 70] s w → F (senA s V k x i) w) : cm iv L h0 d 150 [vr 307, vi k, vi x, vi i] s (qi F) := by
  obtain ⟨d, rfl⟩ : ∃ k, d = k + 1 := ⟨d - 1, by omega⟩
  refine B150 ⟨fun hx => has_ok (fun q => ⟨fun _ => ?_, fun q2 => by cases q2⟩) (fun q => ⟨fun q2 => absurd rfl q2, fun _ => H1 hx q⟩), fun q => H0 (by omega)⟩
  obtain ⟨⟨b1, b2, b3⟩, v1, v2⟩ := hV q
  have hb : 0 ≤ 1300 * s.1 55 ∧ s.1 52 ≤ 2600 := by omega
  refine write1_ok hb h8 ⟨v1.1, v2⟩ v1.2 eqx.rf (by omega) (fun u hu => ?_)
  have H2 := fun w => H2 w hx q
  have l1 := hu.2.1.1
  have l2 := hu.2.2.1
  unfold senA at H2
  refine ⟨by omega, fun q2 => ?_, fun q2 => ?_⟩
  · have hk : k < (wrt s V).2.length := by omega
    have hh := wrt_h ⟨v1.1, v2⟩
    obtain ⟨c1, -, b, E, cE, c3⟩ := lef_at (k := k) hb hu q2.1 hk (fun X hX => by obtain ⟨b, E, e, -⟩ := hh X hX; exact ⟨b, E, e⟩)
    have eS : seeV s V k x = lkE E x := by unfold seeV; rw [cE]
    obtain ⟨b', E', ce, hE1, hE2⟩ := hh _ (List.mem_of_getElem? (getD_at (x := Term.null) q2.1 hk))
    rw [cE] at ce
    cases ce
    rw [eS] at H2
    rw [hu.c (f := 50) (by decide), hu.c (f := 53) (by decide)]
    generalize s.2 50 (u.2 68 k) = e at c3 ⊢
    obtain ⟨e1, e2⟩ := (VR_E 26 E e hE1 (Nat.le_refl _)).mp c3
    have eb : 0 ≤ e ∧ e < 1280 := by omega
    refine ⟨by omega, c1, by omega, by omega, by omega, fun q3 => ?_, fun q3 => ?_⟩
    · rcases e2 x hx.1 (by omega) with ⟨_, n2⟩ | ⟨n1, n2⟩
      · exact absurd n2 q3
      · obtain ⟨m1, m2⟩ := VB_lk E x hE2 n1
        refine write1_ok hb h8 ⟨m1, m2⟩ n2 hu.1 (by omega) (fun w hw => ?_)
        have H2 := H2 w hw.1
        rw [if_pos ⟨q2.1, hk, n1⟩] at H2
        exact atB_ok hw.2.1 H2
    · rcases e2 x hx.1 (by omega) with ⟨n1, _⟩ | ⟨n1, n2⟩
      · have H2 := H2 u hu.1
        rw [if_neg (fun c => c.2.2 n1)] at H2
        exact H2
      · have := (VR_kind (VB_lk E x hE2 n1).1 n2).2.1
        omega
  · have H2 := H2 u hu.1
    rw [if_neg (fun c => by omega)] at H2
    exact H2
end
