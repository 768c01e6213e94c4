/-! Links put by the desk; what it keeps for undo(). -/
section
variable {iv : List (Int × Int)} {L : Nat} {h0 : MH} {A : Int → Nat} {c e : SC} {s : SM} {t : Term} {d : Nat} {P : Int → Prop} {Q : Int → Int → Prop}
def lys : List (Nat × Nat) := [(5, 5), (5, 6), (8, 1)]
/-- a node with a part has its row behind the first cells -/
theorem big_of (hX : FIX c) (hN : ND A c s) {x : Int} (hx : 0 ≤ x ∧ x < s.1 8) (hp : 0 < pO (s.2 9 x)) : 353 ≤ A x := by
  obtain ⟨⟨n1, n2, n3, n4, n5, n6, n7, n8⟩, n9, n10⟩ := hN.2 x hx.1 hx.2
  rcases n10 with q | q
  · exfalso
    rw [q] at n3
    have : le c 74 = 0 := by simp only [hX.1]
    rw [this] at n3
    omega
  · exact q
theorem op_part {x y i : Int} (h : OP A c s P Q) (hx : 0 ≤ x ∧ x < s.1 8) (hy : 0 ≤ y ∧ y < s.1 8) (hi : 0 ≤ i ∧ i < pO (s.2 9 x)) : OP A (uI (uR (uB c (A x + 1) i (A y)) (A y) 5 (A x)) (A y) 6 i) (partU s x i y) (fun b => P b ∨ b = y) (fun b j => Q b j ∨ (b = x ∧ j = i)) ∧ CX lys [1103] c (uI (uR (uB c (A x + 1) i (A y)) (A y) 5 (A x)) (A y) 6 i) := by
  obtain ⟨⟨hX, hN, hI⟩, ⟨hL, hP⟩, ⟨ht, h8, ht0, ht8⟩, hKI, hB⟩ := h
  have h3 := hX.2.2.1
  have hbig := big_of hX hN hx (by omega)
  have h3p := pO_in (s.2 9 x)
  obtain ⟨⟨n1, n2, n3, n4, n5, n6, n7, n8⟩, n9, n10⟩ := hN.2 x hx.1 hx.2
  obtain ⟨⟨m1, m2, m3, m4, m5, m6, m7, m8⟩, m9, m10⟩ := hN.2 y hy.1 hy.2
  have he := partU_e (s := s) (b := x) (i := i) (c := y)
  have hat := partU_at (s := s) (b := x) (i := i) (c := y)
  have e12 : ∀ b, (partU s x i y).2 12 b = if b = y then x else s.2 12 b := fun b => by
    show (if (12 : Nat) = 13 ∧ b = y then i else if (12 : Nat) = 12 ∧ b = y then x else if (12 : Nat) = 14 ∧ b = 3 * x + i then y else s.2 12 b) = _
    simp
  have e13 : ∀ b, (partU s x i y).2 13 b = if b = y then i else s.2 13 b := fun b => by
    show (if (13 : Nat) = 13 ∧ b = y then i else if (13 : Nat) = 12 ∧ b = y then x else if (13 : Nat) = 14 ∧ b = 3 * x + i then y else s.2 13 b) = _
    simp
  have e14 : ∀ b, (partU s x i y).2 14 b = if b = 3 * x + i then y else s.2 14 b := fun b => by
    show (if (14 : Nat) = 13 ∧ b = y then i else if (14 : Nat) = 12 ∧ b = y then x else if (14 : Nat) = 14 ∧ b = 3 * x + i then y else s.2 14 b) = _
    simp
  have e9 : (partU s x i y).2 9 = s.2 9 := he.2 9 (by decide)
  have ne : ∀ b, b ≠ y → A b ≠ A y := fun b hb q => hb (hN.inj hy q)
  have nx : ∀ b, (0 ≤ b ∧ b < s.1 8) → b ≠ x → A b + 1 ≠ A x + 1 := fun b hb hn q => hn (hN.inj hx (by omega))
  have n70 : A y ≠ 70 := fun q => by
    have : kl c 70 = 8 := by simp only [hX.1]
    rw [q, this] at m1; omega
  have hx1 : CX lys [1103] c (uI (uR (uB c (A x + 1) i (A y)) (A y) 5 (A x)) (A y) 6 i) := by
    refine CX.uI (CX.uR (CX.uB CX.rf (fun _ => ?_)) (fun _ => ?_)) (fun _ => ?_)
    · unfold rk; rw [if_neg (by omega), n2]; decide
    · rw [kl_uB, ky5 m10, m1]; decide
    · rw [kl_uR, kl_uB, ky5 m10, m1]; decide
  refine ⟨⟨⟨hX.x hx1 (by decide) (by decide), ?_, ⟨fun b hb => ?_, fun b j hb => ?_⟩⟩, ⟨fun b hb => ?_, fun b j hb => ?_⟩, ⟨?_, ?_, ?_, ?_⟩, ?_, hB⟩, hx1⟩
  · have := hN.x hx1 (by decide) (by decide) (by decide) (by decide) (by decide)
    unfold ND at this ⊢
    rw [e9, he.2 10 (by decide), he.2 11 (by decide), he.1 8 (by simp)]
    exact this
  · rw [he.1 8 (by simp), e12]
    by_cases q : b = y
    · subst q; rw [if_pos rfl]; exact ⟨hy, Or.inr hx⟩
    · rw [if_neg q]; exact hI.1 b (hb.resolve_right q)
  · rw [he.1 8 (by simp), e9, e14]
    rcases hb with hb | ⟨rfl, rfl⟩
    · obtain ⟨g1, g2, g3⟩ := hI.2 b j hb
      split
      · exact ⟨g1, g2, hy⟩
      · exact ⟨g1, g2, g3⟩
    · rw [if_pos rfl]; exact ⟨hx, hi, hy⟩
  · have f5 : ∀ b, fR (uI (uR (uB c (A x + 1) i (A y)) (A y) 5 (A x)) (A y) 6 i) (A b) 5 = if A b = A y then A x else fR c (A b) 5 := fun b => by
      rw [fR_uI, fR_uR, fR_uB]
      by_cases w : A b = A y
      · rw [if_pos ⟨rfl, w⟩, if_pos w]
      · rw [if_neg (fun v => w v.2), if_neg w]
    have f6 : ∀ b, fI (uI (uR (uB c (A x + 1) i (A y)) (A y) 5 (A x)) (A y) 6 i) (A b) 6 = if A b = A y then i else fI c (A b) 6 := fun b => by
      rw [fI_uI, fI_uR, fI_uB]
      by_cases w : A b = A y
      · rw [if_pos ⟨rfl, w⟩, if_pos w]
      · rw [if_neg (fun v => w v.2), if_neg w]
    rw [f5, f6, e12, e13]
    by_cases q : b = y
    · subst q
      simp
    · rw [if_neg (ne b q), if_neg (ne b q), if_neg q, if_neg q]
      exact hL b (hb.resolve_right q)
  · rw [aR_uI, aR_uR, aR_uB, e14]
    rcases hb with hb | ⟨rfl, rfl⟩
    · obtain ⟨g1, g2, g3⟩ := hI.2 b j hb
      have hpb := pO_in (s.2 9 b)
      by_cases q : b = x ∧ j = i
      · obtain ⟨rfl, rfl⟩ := q
        rw [if_pos ⟨rfl, rfl⟩, if_pos rfl]
      · rw [if_neg (fun w => ?_), if_neg (fun w => ?_)]
        · exact hP b j hb
        · apply q; omega
        · by_cases qb : b = x
          · exact q ⟨qb, w.2⟩
          · exact nx b g1 qb w.1
    · rw [if_pos ⟨rfl, rfl⟩, if_pos rfl]
  · rw [fR_uI, fR_uR, if_neg (by omega), fR_uB, he.1 15 (by simp)]; exact ht
  · rw [fI_uI, if_neg (by omega), fI_uR, fI_uB, he.1 8 (by simp)]; exact h8
  · rw [he.1 15 (by simp)]; exact ht0
  · rw [he.1 15 (by simp), he.1 8 (by simp)]; exact ht8
  · unfold KIc
    rw [he.1 2 (by simp), he.2 4 (by decide), he.2 5 (by decide), he.2 6 (by decide), he.2 7 (by decide)]
    have n65 : A y ≠ 65 := fun q => by
      have : kl c 65 = 4 := by simp only [hX.1]
      rw [q, this] at m1; omega
    refine ⟨?_, hKI.2⟩
    rw [fI_uI, if_neg (by omega)]
    exact hKI.1
theorem hang_c {x y i : Int} {F : SC → Prop} (h : OP A c s P Q) (hx : 0 ≤ x ∧ x < s.1 8) (hy : 0 ≤ y ∧ y < s.1 8) (hi : 0 ≤ i ∧ i < pO (s.2 9 x)) (hF : ∀ e, OP A e (partU s x i y) (fun b => P b ∨ b = y) (fun b j => Q b j ∨ (b = x ∧ j = i)) → CX lys [1103] c e → RMk 0 0 c e → F e) : ck iv L h0 d 188 [vr (A x), vi i, vr (A y)] c (qv F) := by
  obtain ⟨p1, p2⟩ := op_part h hx hy hi
  obtain ⟨⟨n1, n2, n3, n4, n5, n6, n7, n8⟩, n9, n10⟩ := h.1.2.1.2 x hx.1 hx.2
  obtain ⟨⟨m1, m2, m3, m4, m5, m6, m7, m8⟩, m9, m10⟩ := h.1.2.1.2 y hy.1 hy.2
  refine C188 ⟨n1, by rw [n7]; exact n2, by rw [n7, n3]; exact hi, Or.inr m1, m1, ?_⟩
  rw [n7]
  exact hF _ p1 p2 RMk.rf
theorem repl_c {o y : Int} {F : SC → Prop} (h : OP A c s P Q) (ho : P o) (hy : 0 ≤ y ∧ y < s.1 8) (hi : s.2 12 o ≠ -9 → 0 ≤ s.2 13 o ∧ s.2 13 o < pO (s.2 9 (s.2 12 o))) (hF : ∀ e, OP A e (replU s o y) (fun b => P b ∨ b = y) (fun b j => Q b j ∨ (s.2 12 o ≠ -9 ∧ b = s.2 12 o ∧ j = s.2 13 o)) → CX lys [1103] c e → RMk 0 0 c e → F e) : ck iv L h0 (d + 1) 208 [vr 70, vr (A o), vr (A y)] c (qv F) := by
  obtain ⟨hI1, hI2⟩ := h.1.2.2.1 o ho
  obtain ⟨hL1, hL2⟩ := h.2.1.1 o ho
  obtain ⟨⟨n1, n2, n3, n4, n5, n6, n7, n8⟩, n9, n10⟩ := h.1.2.1.2 o hI1.1 hI1.2
  obtain ⟨⟨m1, m2, m3, m4, m5, m6, m7, m8⟩, m9, m10⟩ := h.1.2.1.2 y hy.1 hy.2
  refine C208 ⟨n1, ?_⟩
  rw [hL1]
  by_cases e : s.2 12 o = -9
  · have hA9 : A (s.2 12 o) = 2 := by rw [e]; exact A9 h.1.2.1
    rw [hA9]
    refine ⟨fun q => absurd rfl q, fun _ => ⟨m1, by simp only [h.1.1.1], hF _ ?_ ?_ ?_⟩⟩
    · obtain ⟨⟨hX, hN, hI⟩, ⟨hL, hP⟩, ⟨ht, h8, ht0, ht8⟩, hKI, hB⟩ := h
      have hr : replU s o y = ua (ua (us s 15 y) 12 y (-9)) 13 y (-9) := if_pos e
      have n70 : A y ≠ 70 := fun q => by
        have : kl c 70 = 8 := by simp only [hX.1]
        rw [q, this] at m1; omega
      have hx1 : CX lys [1103] c (uR (uR c (A y) 5 2) 70 1 (A y)) := by
        refine CX.uR (CX.uR CX.rf (fun _ => ?_)) (fun _ => ?_)
        · rw [ky5 m10, m1]; decide
        · rw [kl_uR, show kl c 70 = 8 by simp only [hX.1]]; decide
      rw [hr]
      have e12 : ∀ b, (ua (ua (us s 15 y) 12 y (-9)) 13 y (-9)).2 12 b = if b = y then -9 else s.2 12 b := fun b => by
        show (if (12 : Nat) = 13 ∧ b = y then (-9 : Int) else if (12 : Nat) = 12 ∧ b = y then -9 else s.2 12 b) = _
        simp
      have e13 : ∀ b, b ≠ y → (ua (ua (us s 15 y) 12 y (-9)) 13 y (-9)).2 13 b = s.2 13 b := fun b hb => by
        show (if (13 : Nat) = 13 ∧ b = y then (-9 : Int) else if (13 : Nat) = 12 ∧ b = y then -9 else s.2 13 b) = _
        simp [hb]
      have e14 : (ua (ua (us s 15 y) 12 y (-9)) 13 y (-9)).2 14 = s.2 14 := by
        funext b
        show (if (14 : Nat) = 13 ∧ b = y then (-9 : Int) else if (14 : Nat) = 12 ∧ b = y then -9 else s.2 14 b) = _
        simp
      have e9 : ∀ f, f ≠ 12 → f ≠ 13 → (ua (ua (us s 15 y) 12 y (-9)) 13 y (-9)).2 f = s.2 f := fun f f1 f2 => by
        funext b
        show (if f = 13 ∧ b = y then (-9 : Int) else if f = 12 ∧ b = y then -9 else s.2 f b) = _
        simp [f1, f2]
      have e1 : ∀ f, f ≠ 15 → (ua (ua (us s 15 y) 12 y (-9)) 13 y (-9)).1 f = s.1 f := fun f f1 => by
        show (if f = 15 then y else s.1 f) = _
        simp [f1]
      have ne : ∀ b, b ≠ y → A b ≠ A y := fun b hb q => hb (hN.inj hy q)
      refine ⟨⟨hX.x hx1 (by decide) (by decide), ?_, ⟨fun b hb => ?_, fun b j hb => ?_⟩⟩, ⟨fun b hb => ?_, fun b j hb => ?_⟩, ⟨?_, ?_, ?_, ?_⟩, ?_, hB⟩
      · have := hN.x hx1 (by decide) (by decide) (by decide) (by decide) (by decide)
        unfold ND at this ⊢
        rw [e9 9 (by decide) (by decide), e9 10 (by decide) (by decide), e9 11 (by decide) (by decide), e1 8 (by decide)]
        exact this
      · rw [e1 8 (by decide), e12]
        by_cases q : b = y
        · subst q; rw [if_pos rfl]; exact ⟨hy, Or.inl rfl⟩
        · rw [if_neg q]; exact hI.1 b (hb.resolve_right q)
      · rw [e1 8 (by decide), e9 9 (by decide) (by decide), e14]
        exact hI.2 b j (hb.resolve_right (fun w => w.1 e))
      · rw [fR_uR, if_neg (by omega), fR_uR, e12]
        by_cases q : b = y
        · subst q
          rw [if_pos ⟨rfl, rfl⟩, if_pos rfl]
          exact ⟨(A9 hN).symm, fun w => absurd rfl w⟩
        · rw [if_neg (fun w => ne b q w.2), if_neg q, e13 b q]
          exact hL b (hb.resolve_right q)
      · rw [e14]
        exact hP b j (hb.resolve_right (fun w => w.1 e))
      · rw [fR_uR, if_pos ⟨rfl, rfl⟩]
        rfl
      · rw [e1 8 (by decide)]; exact h8
      · exact hy.1
      · rw [e1 8 (by decide)]; exact hy.2
      · unfold KIc
        rw [e1 2 (by decide), e9 4 (by decide) (by decide), e9 5 (by decide) (by decide), e9 6 (by decide) (by decide), e9 7 (by decide) (by decide)]
        exact hKI
    · refine CX.uR (CX.uR CX.rf (fun _ => ?_)) (fun _ => ?_)
      · rw [ky5 m10, m1]; decide
      · rw [kl_uR, show kl c 70 = 8 by simp only [h.1.1.1]]; decide
    · exact RMk.rf
  · have hu := hI2.resolve_left e
    have hr : replU s o y = partU s (s.2 12 o) (s.2 13 o) y := if_neg e
    refine ⟨fun _ => ⟨(h.1.2.1.2 _ hu.1 hu.2).1.1, ?_⟩, fun q => absurd q (h.1.2.1.ne hu).1⟩
    rw [hL2 e]
    refine hang_c h hu hy (hi e) (fun e' p1 p2 p3 => hF e' ?_ p2 p3)
    rw [hr]
    obtain ⟨⟨hX, hN, hI⟩, ⟨hL, hP⟩, r⟩ := p1
    exact ⟨⟨hX, hN, hI.1, fun b j hb => hI.2 b j (hb.imp id (fun w => w.2))⟩, ⟨hL, fun b j hb => hP b j (hb.imp id (fun w => w.2))⟩, r⟩
end
