/-! Looks by the desk: hole, count, digest. -/
section
variable {iv : List (Int × Int)} {L : Nat} {h0 : MH} {A A' : Int → Nat} {c e : SC} {s s' w : SM} {t : Term} {d : Nat}
/-- a node of the list, whole -/
theorem R1.row (h1 : R1 A c s t) (hS : SHT s t) {p m : List Int} {x : Int} (e : fl t = p ++ x :: m) : (kl c 64 = 1 ∧ fR c 64 1 = 70 ∧ kl c 70 = 8 ∧ fR c 70 0 = 71 ∧ kl c 71 = 103 ∧ le c 71 = 60 ∧ fI c 70 3 = (fl t).length) ∧ x ∈ fl t ∧ p.length < 60 ∧ (fl t).length = p.length + 1 + m.length ∧ aR c 71 (p.length : Int) = A x ∧ kl c (A x) = 5 ∧ fI c (A x) 0 = x ∧ fI c (A x) 1 = s.2 9 x ∧ fI c (A x) 4 = s.2 10 x ∧ fI c (A x) 2 = s.2 11 x ∧ fI c (A x) 10 = (jdg s t).2.2 x ∧ 0 ≤ (jdg s t).2.2 x ∧ (jdg s t).2.2 x ≤ 6 := by
  obtain ⟨o1, o2, o3, o4, o5, o6, o7, o8⟩ := R1.ord h1.1 hS e
  obtain ⟨k1, k2, k3, k4⟩ := h1.1.1.or
  obtain ⟨d1, d2, d3, d4, d5⟩ := h1.1.1.dk
  obtain ⟨⟨n1, n2, n3, n4, n5, n6, n7, n8⟩, n9, n10⟩ := h1.1.2.1.2 x (hS.m x o1).1 (hS.m x o1).2
  exact ⟨⟨d1, d3, k1, k2, k3, k4, h1.1.2.2.2.1⟩, o1, o2, o3, o4, o6, n4, n5, n8, n6, (h1.2.2.2.2.2 x o1).2.2⟩
theorem R1.nil (h1 : R1 A c s t) : kl c 64 = 1 ∧ fR c 64 1 = 70 ∧ kl c 70 = 8 ∧ fI c 70 3 = (fl t).length := by
  obtain ⟨d1, d2, d3, d4, d5⟩ := h1.1.1.dk
  exact ⟨d1, d3, d2, h1.1.2.2.2.1⟩
theorem hole_c {i f : Int} {F : Int → SC → Prop} (h1 : R1 A c s t) (hS : SHT s t) (hF : F (holA s t i f) c) : ck iv L h0 d 10 [vr 64, vi i, vi f] c (qi F) := by
  have key : ∀ (m p : List Int) (k : Int), fl t = p ++ m → 0 ≤ k → k ≤ p.length → holA s t i f = nthp (if f = 0 then isH s else isF (jdg s t)) m (i - k) → wk iv L h0 d 10 5 [lr 64, li i, li f, li k, li p.length] [] c (qi F) := by
    intro m
    induction m with
    | nil =>
      intro p k e k0 k1 hk
      obtain ⟨d1, d2, d3, d4⟩ := h1.nil
      rw [List.append_nil] at e
      rw [hk] at hF
      refine C10_5 ?_
      rw [d2, d4, e]
      exact ⟨d1, d3, fun _ => hF, fun q => by omega⟩
    | cons x m ih =>
      intro p k e k0 k1 hk
      obtain ⟨⟨d1, d2, d3, d4, d5, d6, d7⟩, o1, o2, o3, o4, o5, o6, o7, o8, o9, o10, o11, o12⟩ := h1.row hS e
      have nx : ∀ (z : Int), 0 ≤ z → z ≤ p.length + 1 → holA s t i f = nthp (if f = 0 then isH s else isF (jdg s t)) m (i - z) → wk iv L h0 d 10 5 [lr 64, li i, li f, li z, li (p.length + 1)] [] c (qi F) := fun z z0 z1 hz => by
        have := ih (p ++ [x]) z (by rw [e]; simp) z0 (by simp; omega) hz
        rw [List.length_append] at this
        simp only [List.length_cons, List.length_nil] at this
        push_cast at this
        exact this
      unfold nthp at hk
      refine C10_5 ?_
      rw [d2, d4, d5, d6, d7, o4, o5, o6, o7, o10]
      refine ⟨d1, d3, fun q => by omega, fun _ => ⟨rfl, by omega, fun q => ⟨rfl, fun q2 => ⟨by omega, ?_⟩, fun q2 => ⟨fun q3 => ⟨by omega, by omega, ?_⟩, fun q3 => ?_⟩⟩, fun q => ⟨rfl, fun q2 => ⟨by omega, ?_⟩, fun q2 => ⟨fun q3 => ⟨by omega, by omega, ?_⟩, fun q3 => ?_⟩⟩⟩⟩
      · have hx : isH s x = false := by unfold isH; exact decide_eq_false q2
        refine nx k k0 (by omega) ?_
        rw [hk, if_pos q, hx]; simp
      · have hx : isH s x = true := by unfold isH; exact decide_eq_true q2
        refine nx (k + 1) (by omega) (by omega) ?_
        rw [hk, if_pos q, hx, if_pos rfl, if_neg (by omega)]; congr 1; omega
      · have hx : isH s x = true := by unfold isH; exact decide_eq_true q2
        rw [hk, if_pos q, hx, if_pos rfl, if_pos (by omega)] at hF
        exact hF
      · have hx : isF (jdg s t) x = false := by unfold isF; exact decide_eq_false (by omega)
        refine nx k k0 (by omega) ?_
        rw [hk, if_neg q, hx]; simp
      · have hx : isF (jdg s t) x = true := by unfold isF; exact decide_eq_true (by omega)
        refine nx (k + 1) (by omega) (by omega) ?_
        rw [hk, if_neg q, hx, if_pos rfl, if_neg (by omega)]; congr 1; omega
      · have hx : isF (jdg s t) x = true := by unfold isF; exact decide_eq_true (by omega)
        rw [hk, if_neg q, hx, if_pos rfl, if_pos (by omega)] at hF
        exact hF
  exact C10 (key (fl t) [] 0 rfl (Int.le_refl 0) (Int.le_refl 0) (by rw [Int.sub_zero]; rfl))
theorem many_c {f : Int} {F : Int → SC → Prop} (h1 : R1 A c s t) (hS : SHT s t) (hF : F (cntp (if f = 0 then isH s else isF (jdg s t)) (fl t)) c) : ck iv L h0 d 49 [vr 64, vi f] c (qi F) := by
  have key : ∀ (m p : List Int) (k : Int), fl t = p ++ m → 0 ≤ k → k ≤ p.length → cntp (if f = 0 then isH s else isF (jdg s t)) (fl t) = k + cntp (if f = 0 then isH s else isF (jdg s t)) m → wk iv L h0 d 49 4 [lr 64, li f, li k, li p.length] [] c (qi F) := by
    intro m
    induction m with
    | nil =>
      intro p k e k0 k1 hk
      obtain ⟨d1, d2, d3, d4⟩ := h1.nil
      rw [List.append_nil] at e
      rw [hk, show cntp _ [] = 0 from rfl, Int.add_zero] at hF
      refine C49_4 ?_
      rw [d2, d4, e]
      exact ⟨d1, d3, fun _ => hF, fun q => by omega⟩
    | cons x m ih =>
      intro p k e k0 k1 hk
      obtain ⟨⟨d1, d2, d3, d4, d5, d6, d7⟩, o1, o2, o3, o4, o5, o6, o7, o8, o9, o10, o11, o12⟩ := h1.row hS e
      have nx : ∀ (z : Int), 0 ≤ z → z ≤ p.length + 1 → cntp (if f = 0 then isH s else isF (jdg s t)) (fl t) = z + cntp (if f = 0 then isH s else isF (jdg s t)) m → wk iv L h0 d 49 4 [lr 64, li f, li z, li (p.length + 1)] [] c (qi F) := fun z z0 z1 hz => by
        have := ih (p ++ [x]) z (by rw [e]; simp) z0 (by simp; omega) hz
        rw [List.length_append] at this
        simp only [List.length_cons, List.length_nil] at this
        push_cast at this
        exact this
      rw [show ∀ P, cntp P (x :: m) = (if P x then 1 else 0) + cntp P m from fun _ => rfl] at hk
      refine C49_4 ?_
      rw [d2, d4, d5, d6, d7, o4, o5, o7, o10]
      refine ⟨d1, d3, fun q => by omega, fun _ => ⟨rfl, by omega, fun q => ⟨rfl, fun q2 => ⟨by omega, ?_⟩, fun q2 => ⟨by omega, by omega, ?_⟩⟩, fun q => ⟨rfl, fun q2 => ⟨by omega, ?_⟩, fun q2 => ⟨by omega, by omega, ?_⟩⟩⟩⟩
      · have hx : isH s x = false := by unfold isH; exact decide_eq_false q2
        exact nx k k0 (by omega) (by rw [hk, if_pos q, hx]; simp)
      · have hx : isH s x = true := by unfold isH; exact decide_eq_true q2
        exact nx (k + 1) (by omega) (by omega) (by rw [hk, if_pos q, hx, if_pos rfl]; omega)
      · have hx : isF (jdg s t) x = false := by unfold isF; exact decide_eq_false (by omega)
        exact nx k k0 (by omega) (by rw [hk, if_neg q, hx]; simp)
      · have hx : isF (jdg s t) x = true := by unfold isF; exact decide_eq_true (by omega)
        exact nx (k + 1) (by omega) (by omega) (by rw [hk, if_neg q, hx, if_pos rfl]; omega)
  exact C49 (key (fl t) [] 0 rfl (Int.le_refl 0) (Int.le_refl 0) (by omega))
theorem digest_c {F : Int → SC → Prop} (h1 : R1 A c s t) (hT : AFT s t) (hF : F (digA s t) c) : ck iv L h0 d 39 [vr 64] c (ql F) := by
  have hS := hT.1
  obtain ⟨⟨d1, d2, d3, d4, d5⟩, e1, e2, e3, e4, e5, e6⟩ := h1.cur hT
  have hcb := hS.m _ hT.2.2
  obtain ⟨⟨n1, n2, n3, n4, n5, n6, n7, n8⟩, n9, n10⟩ := h1.1.2.1.2 _ hcb.1 hcb.2
  have key : ∀ (m p : List Int) (h : Int), fl t = p ++ m → (fl t).foldl (dg1 s (jdg s t)) 17 = m.foldl (dg1 s (jdg s t)) h → wk iv L h0 d 39 6 [lr 64, ll h, ln, li p.length] [] c (ql F) := by
    intro m
    induction m with
    | nil =>
      intro p h e hk
      obtain ⟨d1, d2, d3, d4⟩ := h1.nil
      rw [List.append_nil] at e
      unfold digA at hF
      rw [hk] at hF
      refine C39_6 ?_
      rw [d2, d4, e, e1, n1, n4, e5]
      exact ⟨d1, d3, fun _ => ⟨rfl, hF⟩, fun q => by omega⟩
    | cons x m ih =>
      intro p h e hk
      obtain ⟨⟨d1, d2, d3, d4, d5, d6, d7⟩, o1, o2, o3, o4, o5, o6, o7, o8, o9, o10, o11, o12⟩ := h1.row hS e
      refine C39_6 ?_
      rw [d2, d4, d5, d6, d7, o4, o5, o6, o7, o8, o9, o10]
      refine ⟨d1, d3, fun q => by omega, fun _ => ⟨rfl, by omega, rfl, by omega, ?_⟩⟩
      have := ih (p ++ [x]) (dg1 s (jdg s t) h x) (by rw [e]; simp) hk
      rw [List.length_append] at this
      simp only [List.length_cons, List.length_nil] at this
      push_cast at this
      exact this
  exact C39 (key (fl t) [] 17 rfl rfl)
end
