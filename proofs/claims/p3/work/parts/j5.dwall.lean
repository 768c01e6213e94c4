/-! Writing by the desk: all of a value (C247). -/
section
variable {iv : List (Int × Int)} {L : Nat} {h0 : MH} {A A' : Int → Nat} {P Q : Nat → Prop} {c c0 e f : SC} {s s' : SM} {t : Term} {d p a w n : Nat} {x z : Int} {V X Y E : Term} {o : List Int × List Term} {K : List (Int × Nat × Term)} {l : List (Int × Nat)} {q : Int × Nat × Term}
/-- the next thing -/
theorem pop_c (hw : WRC c w) (ho : WO A P c w o) (hk : WK A P c w s (q :: K)) : fI c w 6 = K.length + 1 ∧ (aR c (w + 3) K.length = q.2.1 ∧ ((q.2.2 = .null ∧ q.2.1 = 2 ∧ aI c (w + 4) K.length = q.1 ∧ -2147483647 ≤ q.1 ∧ q.1 ≤ 127) ∨ (isV q.2.2 = true ∧ VB s q.2.2 ∧ q.2.1 ≠ 2 ∧ DV A c P q.2.2 q.2.1 []))) ∧ WX w c (uI c w 6 (fI c w 6 - 1)) ∧ WO A P (uI c w 6 (fI c w 6 - 1)) w o ∧ WK A P (uI c w 6 (fI c w 6 - 1)) w s K ∧ fI (uI c w 6 (fI c w 6 - 1)) w 6 = K.length := by
  obtain ⟨⟨h1, h2⟩, h3⟩ := hk
  have hx : WX w c (uI c w 6 (fI c w 6 - 1)) := WX.rf.uI (Or.inr (Or.inr rfl))
  have h1 : fI c w 6 = K.length + 1 := by rw [h1]; simp
  have e6 : fI (uI c w 6 (fI c w 6 - 1)) w 6 = K.length := by rw [fI_uI, if_pos ⟨rfl, rfl⟩]; omega
  have hq := h3 K.length q (by rw [List.reverse_cons, List.getElem?_append_right (by simp)]; simp)
  obtain ⟨⟨⟨o1, o2⟩, o3⟩, ⟨o4, o5⟩, o6⟩ := ho
  refine ⟨h1, hq, hx, ⟨⟨⟨?_, o2⟩, o3⟩, ⟨?_, o5⟩, fun k V hV => ⟨DV.wx hx hw.1.1 (o6 k V hV).1, (o6 k V hV).2⟩⟩, ⟨⟨e6, by simp at h2; omega⟩, fun k y hy => ?_⟩, e6⟩
  · rw [fI_uI, if_neg (by omega)]; exact o1
  · rw [fI_uI, if_neg (by omega)]; exact o4
  · obtain ⟨q1, q2⟩ := h3 k y (by
      have := (List.getElem?_eq_some_iff.mp hy).1
      rw [List.reverse_cons, List.getElem?_append_left this]; exact hy)
    exact ⟨q1, q2.imp id (fun z => ⟨z.1, z.2.1, z.2.2.1, DV.wx hx hw.1.1 z.2.2.2⟩)⟩
theorem loop_w {T : List Int × List Term} {F : SC → Prop} (hP : ∀ a, P a → a ≠ 2) (hF : ∀ e, WX w c0 e → WO A P e w T → F e) : ∀ (m : Nat) (i : Int) (c : SC) (o : List Int × List Term) (K : List (Int × Nat × Term)), 0 ≤ i → i + m = 400 → WX w c0 c → WRC c w → NDW A c s → WO A P c w o → WK A P c w s K → runK (s.2 9) K o = T → (o.1.length < 400 → i ≤ o.1.length ∧ K.length ≤ 1 + 3 * o.1.length) → wk iv L h0 (d + 4) 247 23 [lr w, ln, li i] [] c (qv F) := by
  intro m
  induction m with
  | zero =>
    intro i c o K i0 hi hx hw hN ho hk hr hl
    have h4 := ho.1.1.2
    have : o.1.length = 400 := by
      by_cases q : o.1.length < 400
      · have := (hl q).1; omega
      · omega
    rw [runK_full K o this] at hr
    rw [← hr] at hF
    exact C247_23 ⟨fun _ => hF c hx ho, fun q => by omega⟩
  | succ m ih =>
    intro i c o K i0 hi hx hw hN ho hk hr hl
    refine C247_23 ⟨fun q => by omega, fun _ => ⟨hw.1.1, fun q => ?_, fun q => ?_⟩⟩
    · cases K with
      | nil =>
        have hr : o = T := hr
        rw [← hr] at hF
        exact hF c hx ho
      | cons q K =>
        have := (pop_c hw ho hk).1
        omega
    · cases K with
      | nil =>
        have := hk.1.1
        simp at this
        omega
      | cons q K =>
        obtain ⟨p1, ⟨p2, p3⟩, p4, p5, p6, p7⟩ := pop_c hw ho hk
        have hkl := hk.1.2
        simp only [List.length_cons] at hkl
        have hol := ho.1.1.2
        have hw2 := hw.x p4
        have hN2 := hN.wx p4 hw.1.1
        have hx2 := hx.tr p4
        rw [p7]
        obtain ⟨⟨k1, k2, k3, k4, k5⟩, ⟨k6, k7, k8, k9⟩, k10, k11, k12, k13⟩ := id hw
        rw [k4, k5, p2]
        -- one round more
        have nxt : ∀ {e : SC} {o' : List Int × List Term} {K' : List (Int × Nat × Term)}, WX w (uI c w 6 (fI c w 6 - 1)) e → WO A P e w o' → WK A P e w s K' → runK (s.2 9) K' o' = T → (o.1.length < 400 → o.1.length < o'.1.length ∧ (o'.1.length < 400 → K'.length + 3 * o.1.length ≤ K.length + 1 + 3 * o'.1.length)) → o.1.length ≤ o'.1.length → (-2147483648 ≤ i + 1 ∧ i + 1 ≤ 2147483647) ∧ wk iv L h0 (d + 4) 247 23 [lr w, ln, li (i + 1)] [] e (qv F) := fun {e o' K'} e1 e2 e3 e4 e5 e6 => ⟨by omega, ih (i + 1) e o' K' (by omega) (by omega) (hx2.tr e1) (hw2.x e1) (hN2.wx e1 hw2.1.1) e2 e3 e4 (fun h => by
          have h1 := e5 (by omega)
          have h2 := hl (by omega)
          simp only [List.length_cons] at h2
          have h3 := h1.2 h
          omega)⟩
        obtain ⟨qk, qx, qV⟩ := q
        refine ⟨by omega, k8, by omega, fun z => ⟨k9, by omega, ?_⟩, fun z => ?_⟩
        · rcases p3 with ⟨r1, r2, r3, r4, r5⟩ | ⟨r1, r2, r3, r4⟩
          · have r1 : qV = .null := r1
            subst r1
            have r3 : aI c (w + 4) K.length = qk := r3
            have r4 : -2147483647 ≤ qk := r4
            have r5 : qk ≤ 127 := r5
            rw [r3]
            refine ⟨fun h => ?_, fun h => ⟨by omega, ?_⟩⟩
            · refine add_c hw2 p5 p6 (by omega) (fun e e1 e2 e3 => nxt e1 e2 e3 ?_ (fun h => ?_) (pB_len qk o).1)
              · rw [← hr, runK_c, apK_c h]
              · have := (pB_len qk o).2 h; omega
            · have ng : ¬ 0 ≤ qk := by omega
              refine num_c (d := d + 2) hw2 p5 p6 (by omega) (fun e e1 e2 e3 => nxt e1 e2 e3 ?_ (fun h => ?_) (pN_len _ o))
              · rw [← hr, runK_c, apK_n ng]
              · have := pN_lt (-1 - qk) o h; omega
          · exact absurd z r3
        · rcases p3 with ⟨r1, r2, r3, r4, r5⟩ | ⟨r1, r2, r3, r4⟩
          · exact absurd r2 z
          · refine one_c (d := d) hP hw2 hN2 p5 p6 (fun h => by have := (hl h).2; simp only [List.length_cons] at this; omega) ⟨r1, r2⟩ (DV.wx p4 hw.1.1 r4) (fun e o' K' e1 e2 e3 e4 => nxt e1 e2 e3 ?_ (fun h => e4.2.1 h) ?_)
            · rw [e4.1, ← hr, runK_c, apK_v r1]
            · exact e4.2.2
theorem written_c {F : SC → Prop} (hP : ∀ a, P a → a ≠ 2) (hw : WRC c w) (hN : NDW A c s) (hV : isV V = true ∧ VB s V) (hv : DV A c P V a []) (hF : ∀ e, WX w c e → WO A P e w (wrt s V) → F e) : ck iv L h0 (d + 5) 247 [vr w, vr a] c (qv F) := by
  have hx : WX w c (uI (uI (uI c w 3 0) w 1 0) w 6 0) := ((WX.rf.uI (Or.inr (Or.inl rfl))).uI (Or.inl rfl)).uI (Or.inr (Or.inr rfl))
  have e3 : fI (uI (uI (uI c w 3 0) w 1 0) w 6 0) w 3 = 0 := by simp [fI_uI]
  have e1 : fI (uI (uI (uI c w 3 0) w 1 0) w 6 0) w 1 = 0 := by simp [fI_uI]
  have e6 : fI (uI (uI (uI c w 3 0) w 1 0) w 6 0) w 6 = 0 := by simp [fI_uI]
  have hw1 := hw.x hx
  refine C247 ⟨hw.1.1, ?_⟩
  generalize uI (uI (uI c w 3 0) w 1 0) w 6 0 = u at *
  have ho : WO A P u w ([], []) := ⟨⟨⟨e3, by decide⟩, fun k x h => by simp at h⟩, ⟨e1, by decide⟩, fun k x h => by simp at h⟩
  have hk : WK A P u w s [] := ⟨⟨e6, by decide⟩, fun k q h => by simp at h⟩
  have hv1 := DV.wx hx hw.1.1 hv
  refine later_v hw1 ho hk hV ⟨hP _ (DV_kind hV.1 hv1).1.1, hv1⟩ (fun e K' h1 h2 h3 h4 => ?_)
  have h4 := h4 (by decide)
  subst h4
  refine loop_w (T := wrt s V) (c0 := c) hP hF 400 0 e ([], []) _ (Int.le_refl _) rfl (hx.tr h1) (hw1.x h1) ((hN.wx hx hw.1.1).wx h1 hw1.1.1) h2 h3 ?_ (fun _ => ⟨by decide, by simp⟩)
  show apK (s.2 9) (0, a, V) ([], []) = _
  exact apK_v hV.1 0 a ([], [])
end
