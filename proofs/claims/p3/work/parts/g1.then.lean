/-! What was told at the time of a work: reasons then. -/
section
variable {iv : List (Int × Int)} {L : Nat} {h0 : MH} {A A' : Int → Nat} {c c0 e : SC} {s s' w : SM} {t : Term} {d : Nat} {ys : List (Nat × Nat)} {rs : List Nat}
theorem thens_c {F : SC → Prop} (h1 : R1 A c s t) (hS : SHT s t) (hF : ∀ e, R1 A e s t → CX [(5, 11)] [] c e → RMk 0 0 c e → (∀ x, x ∈ fl t → fI e (A x) 11 = (jdg s t).2.2 x) → (∀ a y, (y ≠ 11 ∨ ∀ x, x ∈ fl t → a ≠ A x) → fI e a y = fI c a y) → F e) : ck iv L h0 d 217 [vr 70] c (qv F) := by
  have key : ∀ (m p : List Int) (f : SC), fl t = p ++ m → CX [(5, 11)] [] c f → RMk 0 0 c f → (∀ x, x ∈ p → fI f (A x) 11 = (jdg s t).2.2 x) → (∀ a y, (y ≠ 11 ∨ ∀ x, x ∈ fl t → a ≠ A x) → fI f a y = fI c a y) → wk iv L h0 d 217 2 [lr 70, li p.length] [] f (qv F) := by
    intro m
    induction m with
    | nil =>
      intro p f e hx hr hp ho
      have hf : R1 A f s t := h1.x hS hx (by decide) (by decide) (by decide) (fun _ _ w => by cases w)
      obtain ⟨d1, d2, d3, d4⟩ := hf.nil
      rw [List.append_nil] at e
      refine C217_2 ⟨d3, fun _ => hF f hf hx hr (fun x hx' => hp x (by rw [← e]; exact hx')) ho, fun q => ?_⟩
      rw [d4, e] at q
      omega
    | cons x m ih =>
      intro p f e hx hr hp ho
      have hf : R1 A f s t := h1.x hS hx (by decide) (by decide) (by decide) (fun _ _ w => by cases w)
      obtain ⟨⟨d1, d2, d3, d4, d5, d6, d7⟩, o1, o2, o3, o4, o5, o6, o7, o8, o9, o10, o11, o12⟩ := hf.row hS e
      refine C217_2 ?_
      rw [d4, d5, d6, d7, o4, o5, o10]
      have hxb := hS.m x o1
      obtain ⟨⟨n1, -⟩, n9, n10⟩ := h1.1.2.1.2 x hxb.1 hxb.2
      refine ⟨d3, fun q => by omega, fun _ => ⟨rfl, by omega, rfl, by omega, ?_⟩⟩
      have := ih (p ++ [x]) (uI f (A x) 11 ((jdg s t).2.2 x)) (by rw [e]; simp) (hx.uI (fun _ => by rw [o5, ky5 n10]; decide)) hr (fun y hy => ?_) (fun a y hay => ?_)
      · rw [List.length_append] at this
        simp only [List.length_cons, List.length_nil] at this
        push_cast at this
        exact this
      · rw [fI_uI]
        by_cases q : y = x
        · subst q; rw [if_pos ⟨rfl, rfl⟩]
        · rcases List.mem_append.mp hy with hy | hy
          · rw [if_neg (fun w => q ?_)]
            · exact hp y hy
            · have hyb := hS.m y (by rw [e]; exact List.mem_append_left _ hy)
              exact h1.1.2.1.inj hxb w.2
          · exact absurd (List.mem_singleton.mp hy) q
      · rw [fI_uI, if_neg (fun w => ?_)]
        · exact ho a y hay
        · rcases hay with q | q
          · exact q w.1
          · exact q x o1 w.2
  exact C217 (key (fl t) [] c rfl CX.rf RMk.rf (fun x w => by cases w) (fun _ _ _ => rfl))
/-- is another reason told now? -/
def thn (A : Int → Nat) (c : SC) (s : SM) (t : Term) : Int := if (fl t).any (fun x => decide (fI c (A x) 11 ≠ -9 ∧ fI c (A x) 11 ≠ (jdg s t).2.2 x)) = true then 1 else 0
theorem then_c {F : Int → SC → Prop} (h1 : R1 A c s t) (hS : SHT s t) (hF : F (thn A c s t) c) : ck iv L h0 d 218 [vr 70] c (qi F) := by
  have key : ∀ (m p : List Int), fl t = p ++ m → (fl t).any (fun x => decide (fI c (A x) 11 ≠ -9 ∧ fI c (A x) 11 ≠ (jdg s t).2.2 x)) = m.any (fun x => decide (fI c (A x) 11 ≠ -9 ∧ fI c (A x) 11 ≠ (jdg s t).2.2 x)) → wk iv L h0 d 218 2 [lr 70, li p.length] [] c (qi F) := by
    intro m
    induction m with
    | nil =>
      intro p e hk
      obtain ⟨d1, d2, d3, d4⟩ := h1.nil
      rw [List.append_nil] at e
      unfold thn at hF
      rw [hk] at hF
      refine C218_2 ⟨d3, fun _ => hF, fun q => ?_⟩
      rw [d4, e] at q
      omega
    | cons x m ih =>
      intro p e hk
      obtain ⟨⟨d1, d2, d3, d4, d5, d6, d7⟩, o1, o2, o3, o4, o5, o6, o7, o8, o9, o10, o11, o12⟩ := h1.row hS e
      refine C218_2 ?_
      rw [d4, d5, d6, d7, o4, o5, o10]
      have nx : ¬ (fI c (A x) 11 ≠ -9 ∧ fI c (A x) 11 ≠ (jdg s t).2.2 x) → wk iv L h0 d 218 2 [lr 70, li (p.length + 1)] [] c (qi F) := fun w => by
        rw [List.any_cons, decide_eq_false w, Bool.false_or] at hk
        have := ih (p ++ [x]) (by rw [e]; simp) hk
        rw [List.length_append] at this
        simp only [List.length_cons, List.length_nil] at this
        push_cast at this
        exact this
      refine ⟨d3, fun q => by omega, fun _ => ⟨rfl, by omega, rfl, fun q => ⟨by omega, nx (fun w => w.1 q)⟩, fun q => ⟨fun q2 => ⟨by omega, nx (fun w => w.2 q2)⟩, fun q2 => ?_⟩⟩⟩
      rw [List.any_cons, decide_eq_true (show fI c (A x) 11 ≠ -9 ∧ fI c (A x) 11 ≠ (jdg s t).2.2 x from ⟨q, q2⟩), Bool.true_or] at hk
      unfold thn at hF
      rw [hk, if_pos rfl] at hF
      exact hF
  exact C218 (key (fl t) [] rfl rfl)
end
