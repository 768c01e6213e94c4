/-! A trial judged. -/
/-- what judging a trial leaves -/
def TRK (A : Int → Nat) (c e : SC) (t : Term) (r : Int) : Prop := (CX jys jrs c e ∧ RMk 0 0 c e) ∧ (0 ≤ r ∧ r < 1440) ∧ (∀ x, x ∈ fl t → fI e (A x) 8 = fI c (A x) 8 ∧ fI e (A x) 9 = fI c (A x) 9 ∧ fI e (A x) 10 = fI c (A x) 10) ∧ fI e 65 4 = fI c 65 4 ∧ ∀ k, k < fI c 65 5 → aI e 66 k = aI c 66 k ∧ aI e 67 k = aI c 67 k ∧ aI e 68 k = aI c 68 k ∧ aI e 69 k = aI c 69 k
theorem bnd_tr {c : SC} {s : SM} {t : Term} {n : Nat} (hS : SHT s t) : ∀ (m : Nat) (y x : Int), y ∈ fl t → bnd ((trX c s n).2 9) ((trX c s n).2 10) ((trX c s n).2 12) ((trX c s n).2 13) m y x = bnd (s.2 9) (s.2 10) (s.2 12) (s.2 13) m y x := by
  have lt : ∀ x, x ∈ fl t → x < 3000 := fun x hx => by have := hS.m x hx; have := hS.2.2.2.2.1; omega
  intro m
  induction m with
  | zero => intro y x _; rfl
  | succ m ih =>
    intro y x hy
    unfold bnd
    rw [trX_o (lt y hy) (by decide : (12 : Nat) ≠ 14), trX_o (lt y hy) (by decide : (13 : Nat) ≠ 14)]
    by_cases e : s.2 12 y = -9
    · rw [if_pos e, if_pos e]
    · have hu := hS.up9 hy (fun w => e (by rw [w]; exact hS.2.2.2.2.2.2.1))
      rw [if_neg e, if_neg e, trX_o (lt _ hu) (by decide : (9 : Nat) ≠ 14), trX_o (lt _ hu) (by decide : (10 : Nat) ≠ 14), ih _ x hu]
theorem DP_tr {c : SC} {s : SM} {t : Term} {n : Nat} (hS : SHT s t) : ∀ (m : Nat) (y : Int), y ∈ fl t → DP (s.2 12) m y → DP ((trX c s n).2 12) m y := by
  have lt : ∀ x, x ∈ fl t → x < 3000 := fun x hx => by have := hS.m x hx; have := hS.2.2.2.2.1; omega
  intro m
  induction m with
  | zero => intro y _ h; exact h
  | succ m ih =>
    intro y hy h
    unfold DP at h ⊢
    rw [trX_o (lt y hy) (by decide : (12 : Nat) ≠ 14)]
    rcases h with h | h
    · exact Or.inl h
    · right
      have hu := hS.up9 hy (fun w => by have := hS.2.2.2.2.2.2.1; rw [← w] at this; omega)
      exact ⟨h.1, ih _ hu h.2⟩
section
variable {iv : List (Int × Int)} {L : Nat} {h0 : MH} {A A' : Int → Nat} {c e : SC} {s s' w : SM} {t : Term} {d : Nat} {ys : List (Nat × Nat)} {rs : List Nat}
theorem trj_ok {n : Nat} {F : Int → SC → Prop} (h1 : R1 A c s t) (hT : AFT s t) (hK : KIs s) (hTR : TRc c) (hn : 1 ≤ n ∧ n < 16) (h5 : fR c (tra n) 5 = fR c (A (s.1 16)) 5) (h6 : fI c (tra n) 6 = fI c (A (s.1 16)) 6) (hD : 80 ≤ d) (hF : ∀ r e, TRK A c e t r → F r e) : ck iv L h0 d 165 [vr 175, vr (tra n), vi (fI c (A (s.1 16)) 8), vi 0] c (qi F) := by
  obtain ⟨hS, hB, hc⟩ := hT
  have hX := h1.1.1
  have hI := h1.2.2.1
  obtain ⟨j1, j2, j3⟩ := h1.2.2.2
  have lt : ∀ x, x ∈ fl t → x < 3000 ∧ 0 ≤ x := fun x hx => by have := hS.m x hx; have := hS.2.2.2.2.1; omega
  obtain ⟨⟨r1, r2, r3, r4, r5, r6, r7⟩, rp⟩ := hTR n hn.1 hn.2
  have hpo := pO_in n
  have hn3 := hK.1
  have hJS := tr_js h1 hS hc hTR hn h5 h6
  have hv : VJ (trA A n) (fun x => x ∈ fl t ∨ x ∈ fl (trT n)) (fun _ => none) c (mx (trA A n) c (trX c s n)) := ⟨hX, hJS, fun b _ => ⟨rfl, rfl, rfl⟩, ⟨rfl, rfl⟩, rfl, rfl, rfl, rfl⟩
  have x0 := trX_n (c := c) (s := s) (n := n) (b := 3000) (by decide)
  have hAT := AT_tr (so := (trX c s n).2 9) (pa := (trX c s n).2 14) (up := (trX c s n).2 12) (pl := (trX c s n).2 13) hn.2 (by rw [x0.1, if_pos rfl]) (fun b b0 b1 => by
    obtain ⟨x9, x10, x11, x12, x13⟩ := trX_n (c := c) (s := s) (n := n) (b := b) ⟨by omega, b1⟩
    rw [if_neg (by omega)] at x9 x12 x13
    exact ⟨x9, x12, x13, trX_p ⟨b0, b1⟩⟩)
  obtain ⟨t1, t2, t3, t4⟩ := hAT
  have hup : s.2 12 (s.1 16) = -9 ∨ s.2 12 (s.1 16) ∈ fl t := by
    by_cases w : s.1 16 = hd t
    · left; rw [w]; exact hS.2.2.2.2.2.2.1
    · right; exact hS.up9 hc w
  have e12 : (trX c s n).2 12 3000 = s.2 12 (s.1 16) := by rw [x0.2.2.2.1, if_pos rfl]
  have e13 : (trX c s n).2 13 3000 = s.2 13 (s.1 16) := by rw [x0.2.2.2.2, if_pos rfl]
  have dp0 : DP ((trX c s n).2 12) 61 3000 := by
    have := DP_tree hS _ hc
    unfold DP at this ⊢
    rw [e12]
    rcases this with q | q
    · exact Or.inl q
    · right
      have hu : s.2 12 (s.1 16) ∈ fl t := hup.resolve_left (fun w => by omega)
      exact ⟨q.1, DP_tr hS _ _ hu q.2⟩
  have hPT : PRT (mx (trA A n) c (trX c s n)) (trT n) := by
    refine ⟨t1, t2, t3, fun x hx q => ?_, fun x hx => ?_⟩
    · have m := trT_mem hx
      obtain ⟨x9, x10, x11, x12, x13⟩ := trX_n (c := c) (s := s) (n := n) (b := x) ⟨by omega, by omega⟩
      have q : (trX c s n).2 9 x = 8 ∨ (trX c s n).2 9 x = 15 := q
      show 0 ≤ (trX c s n).2 11 x ∧ (trX c s n).2 11 x < fI c 65 4
      rw [x9] at q
      by_cases w : x = 3000
      · rw [if_pos w] at q
        have ez : tra n + 2 * ((3000 : Int) - 3000).toNat = tra n := by simp
        rw [w] at x11
        rw [ez] at x11
        rw [w, x11, r7 (by omega), hI.1]
        omega
      · rw [if_neg w] at q
        omega
    · have m := trT_mem hx
      obtain ⟨x9, x10, x11, x12, x13⟩ := trX_n (c := c) (s := s) (n := n) (b := x) ⟨by omega, by omega⟩
      by_cases w : x = 3000
      · rw [w]
        exact DP_up 61 70 _ (by decide) dp0
      · rw [if_neg w] at x12
        refine DP_up 62 70 _ (by decide) ?_
        show (trX c s n).2 12 x = -9 ∨ ((0 ≤ (trX c s n).2 12 x ∧ (trX c s n).2 12 x < 3004) ∧ DP ((trX c s n).2 12) 61 ((trX c s n).2 12 x))
        right
        rw [x12]
        exact ⟨by decide, dp0⟩
  have ebd : ∀ x, bds (mx (trA A n) c (trX c s n)) 3000 x = bnd (s.2 9) (s.2 10) (s.2 12) (s.2 13) 70 (s.1 16) x := fun x => by
    show bnd ((trX c s n).2 9) ((trX c s n).2 10) ((trX c s n).2 12) ((trX c s n).2 13) (69 + 1) 3000 x = bnd (s.2 9) (s.2 10) (s.2 12) (s.2 13) (69 + 1) (s.1 16) x
    unfold bnd
    rw [e12, e13]
    by_cases w : s.2 12 (s.1 16) = -9
    · rw [if_pos w, if_pos w]
    · have hu := hup.resolve_left w
      rw [if_neg w, if_neg w, trX_o (lt _ hu).1 (by decide : (9 : Nat) ≠ 14), trX_o (lt _ hu).1 (by decide : (10 : Nat) ≠ 14), bnd_tr hS 69 _ x hu]
  have hPJ : PRJ (mx (trA A n) c (trX c s n)) (hd (trT n)) (fl (trT n)) (jdg s t) (fun x => x ∈ fl t) := by
    refine ⟨j1, fun x => ?_, fun x hx => ?_, fun x hx w => ?_⟩
    · rw [t4, ebd]
      rcases bnd_mem hS.w (nu := s.2 10) 70 (s.1 16) x hc with q | ⟨q1, q2⟩
      · exact Or.inl q
      · right
        generalize bnd (s.2 9) (s.2 10) (s.2 12) (s.2 13) 70 (s.1 16) x = u at q1 q2
        have hul := lt u q1
        refine ⟨by omega, ?_⟩
        have o9 : (mx (trA A n) c (trX c s n)).2 9 u = s.2 9 u := (trX_o (c := c) (s := s) (n := n) hul.1 (by decide : (9 : Nat) ≠ 14))
        have o11 : (mx (trA A n) c (trX c s n)).2 11 u = s.2 11 u := (trX_o (c := c) (s := s) (n := n) hul.1 (by decide : (11 : Nat) ≠ 14))
        have o14 : (mx (trA A n) c (trX c s n)).2 14 (3 * u) = s.2 14 (3 * u) := (trX_14 (c := c) (s := s) (n := n) (by omega))
        have o2 : (mx (trA A n) c (trX c s n)).1 2 = fI c 65 4 := rfl
        rw [o9, o11, o14, o2, hI.1]
        rcases q2 with q2 | q2
        · left
          have := (hB u (hS.m u q1).1 (hS.m u q1).2).2.2.2 (Or.inl q2)
          exact ⟨q2, this⟩
        · right
          have p10 : 0 < pO 10 := by decide
          have hk := ((AT_mem t hS.1 u q1).2.2.1 0 (Int.le_refl 0) (by rw [q2]; exact p10) (fun w => by have := hS.2.1; unfold full at this; rw [this, ← w, q2]; exact p10)).1
          rw [Int.add_zero] at hk
          have := lt _ hk
          exact ⟨q2, hk, by omega, by omega⟩
    · obtain ⟨⟨g1, g2⟩, g3, g4⟩ := j3 x hx
      have o19 : (mx (trA A n) c (trX c s n)).2 19 x = fI c (A x) 9 := by show fI c (trA A n x) 9 = _; rw [trA_o (lt x hx).1]
      have o20 : (mx (trA A n) c (trX c s n)).2 20 x = fI c (A x) 8 := by show fI c (trA A n x) 8 = _; rw [trA_o (lt x hx).1]
      have o21 : (mx (trA A n) c (trX c s n)).2 21 x = fI c (A x) 10 := by show fI c (trA A n x) 10 = _; rw [trA_o (lt x hx).1]
      rw [o19, o20, o21]
      exact ⟨⟨g1, g2⟩, g3, g4⟩
    · have := trT_mem w
      have := lt x hx
      omega
  have hla : (fl (trT n)).length ≤ 4 := by
    unfold trT
    rw [adds_len]
    have : (fl (Term.index 3000)).length = 1 := rfl
    omega
  have hdp := dpt_len _ t1
  have hak : aK (mx (trA A n) c (trX c s n)) (fI c (A (s.1 16)) 8) ((jdg s t).2.1 (s.1 16)) := (j3 _ hc).2.1
  have h3 : (mx (trA A n) c (trX c s n)).1 3 = fI c 65 5 := rfl
  have spec := jsp_alld (iv := iv) (L := L) (h0 := h0) (Ad := trA A n) (Tn := fun x => x ∈ fl t ∨ x ∈ fl (trT n)) (dpt (trT n)) (fun _ => none) (trT n) (mx (trA A n) c (trX c s n)) (fI c (A (s.1 16)) 8) ((jdg s t).2.1 (s.1 16)) (jdg s t) (fun x => x ∈ fl t) (Nat.le_refl _) hPT hPJ hak (by rw [h3]; omega) ⟨fun _ q => Or.inr q, fun x q => absurd rfl q⟩
  have eA : trA A n (hd (trT n)) = tra n := by rw [t4]; unfold trA; rw [if_pos (by decide)]; simp
  have spec2 := spec c 0 hv (Int.le_refl _) (by omega)
  have tg : (tgM (trA A n) 88 [vr 307, vi (hd (trT n)), vi (fI c (A (s.1 16)) 8)] 0) = (165, [vr 175, vr (tra n), vi (fI c (A (s.1 16)) 8), vi 0]) := by
    show (165, [vr 175, vr (trA A n (hd (trT n))), vi (fI c (A (s.1 16)) 8), vi 0]) = _
    rw [eA]
  rw [tg] at spec2
  refine inQ spec2 (by omega) ?_
  rintro r e w hvw hxw ⟨p1, p2, ⟨p3, -⟩, p4⟩
  obtain ⟨hXe, -, hJe, ⟨g1, g2⟩, g4, g5, g6, g7⟩ := hvw
  have hlt := p3.lt p1.2.1.1.1.2 p1.2.1.2.1
  have hw3 : w.1 3 ≤ 1320 := by rw [h3] at p2; omega
  refine hF r e ⟨hxw, by omega, fun x hx => ?_, ?_, fun k hk => ?_⟩
  · obtain ⟨a1, a2, a3⟩ := hJe x (Or.inl hx)
    obtain ⟨b1, b2, b3⟩ := p1.2.2.2 x (fun w' => by have := trT_mem w'; have := lt x hx; omega)
    rw [trA_o (lt x hx).1] at a1 a2 a3
    have o19 : (mx (trA A n) c (trX c s n)).2 19 x = fI c (A x) 9 := by show fI c (trA A n x) 9 = _; rw [trA_o (lt x hx).1]
    have o20 : (mx (trA A n) c (trX c s n)).2 20 x = fI c (A x) 8 := by show fI c (trA A n x) 8 = _; rw [trA_o (lt x hx).1]
    have o21 : (mx (trA A n) c (trX c s n)).2 21 x = fI c (A x) 10 := by show fI c (trA A n x) 10 = _; rw [trA_o (lt x hx).1]
    have a3 : fI e (A x) 10 = w.2 21 x := a3
    rw [a1, a2, a3, b1, b2, b3, o19, o20, o21]
    exact ⟨rfl, rfl, rfl⟩
  · exact g1.trans (p1.1.1 2 (by decide))
  · rw [g4, g5, g6, g7]
    exact p1.2.2.1.2.2 k (by rw [h3]; exact hk)
end
