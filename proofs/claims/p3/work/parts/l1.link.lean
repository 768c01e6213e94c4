/-! What the desk keeps of fillers, of reasons then, of whether it was changed. -/
/-- the reason that was noted of a node, -9: none -/
def thW : List (Int × Int) → Int → Int
  | [], _ => -9
  | p :: r, x => if p.1 = x then p.2 else thW r x
/-- notes of nodes born, each but once -/
def wfW (s : SM) (W : List (Int × Int)) : Prop := ∀ p, p ∈ W → thW W p.1 = p.2 ∧ 0 ≤ p.2 ∧ 0 ≤ p.1 ∧ p.1 < s.1 8
theorem thW_no {W : List (Int × Int)} {x : Int} (h : ∀ p, p ∈ W → p.1 ≠ x) : thW W x = -9 := by
  induction W with
  | nil => rfl
  | cons p r ih =>
    show (if p.1 = x then p.2 else thW r x) = -9
    rw [if_neg (h p (List.mem_cons_self ..))]
    exact ih (fun q hq => h q (List.mem_cons_of_mem _ hq))
theorem thW_map {f : Int → Int} {l : List Int} {x : Int} : (x ∈ l → thW (l.map fun y => (y, f y)) x = f x) ∧ (x ∉ l → thW (l.map fun y => (y, f y)) x = -9) := by
  induction l with
  | nil => exact ⟨fun h => (by cases h), fun _ => rfl⟩
  | cons a r ih =>
    have e : thW ((a :: r).map fun y => (y, f y)) x = if a = x then f a else thW (r.map fun y => (y, f y)) x := rfl
    rw [e]
    by_cases q : a = x
    · rw [if_pos q, q]
      exact ⟨fun _ => rfl, fun h => absurd (List.mem_cons_self ..) h⟩
    · rw [if_neg q]
      refine ⟨fun h => ?_, fun h => ih.2 (fun w => h (List.mem_cons_of_mem _ w))⟩
      rcases List.mem_cons.mp h with w | w
      · exact absurd w.symm q
      · exact ih.1 w
/-- cells of nodes that are none of those born hold nothing of this -/
def QN (A : Int → Nat) (c : SC) (s : SM) : Prop := ∀ a, a < nxt c → kl c a = 5 → (fR c a 12 = 2 ∧ fI c a 11 = -9) ∨ ∃ b, 0 ≤ b ∧ b < s.1 8 ∧ a = A b
def DLK (A : Int → Nat) (c : SC) (s : SM) (t : Term) (W : List (Int × Int)) : Prop := (fI c 64 15 = 0 ↔ s.1 35 = 0) ∧ QN A c s ∧ (∀ b, b ∈ fl t → fR c (A b) 12 = 2) ∧ (s.1 35 = 0 → (∀ b, 0 ≤ b → b < s.1 8 → 0 < s.2 42 b → fR c (A b) 12 = A (s.2 42 b - 1)) ∧ ∀ b, b ∈ fl t → fI c (A b) 11 = thW W b)
section
variable {iv : List (Int × Int)} {L : Nat} {h0 : MH} {A A' : Int → Nat} {P Q : Nat → Prop} {c c0 e f : SC} {σ s s' v : SM} {t t' u : Term} {d p q a g y r : Nat} {n b x z i k : Int} {ys : List (Nat × Nat)} {rs : List Nat} {K : List Snap} {W : List (Int × Int)}
theorem new_c (hN : ND A c s) (hN' : ND A' e s') (hQ : QN A c s) (hE : EXT A A' (s.1 8)) (hx : CX ys rs c e) (hy : (∀ k, (k, 11) ∉ ys)) (h12 : ∀ a, a < nxt c → fR c a 12 = 2 → kl c a = 5 → fR e a 12 = 2) (hW : NWc (nxt c) e) (h8 : s.1 8 ≤ s'.1 8) (h0 : 0 ≤ s.1 8) (hb : s.1 8 ≤ b ∧ b < s'.1 8) : fR e (A' b) 12 = 2 ∧ fI e (A' b) 11 = -9 := by
  obtain ⟨⟨m1, -⟩, m9, m10⟩ := hN'.2 b (by omega) hb.2
  by_cases q : A' b < nxt c
  · have k5 : kl c (A' b) = 5 := by rw [← hx.k q]; exact m1
    rcases hQ _ q k5 with ⟨h1, h2⟩ | ⟨b0, h1, h2, h3⟩
    · exact ⟨h12 _ q h1 k5, (hx.i q (hy _)).trans h2⟩
    · rw [← hE b0 h2] at h3
      have := hN'.inj ⟨by omega, hb.2⟩ h3.symm
      omega
  · exact hW _ (by omega) (by omega) m1
theorem QN_up (hQ : QN A c s) (hN : ND A c s) (hE : EXT A A' (s.1 8)) (hx : CX ys rs c e) (hy : (∀ k, (k, 11) ∉ ys)) (h12 : ∀ a, a < nxt c → fR c a 12 = 2 → kl c a = 5 → fR e a 12 = 2) (hW : NWc (nxt c) e) (h8 : s.1 8 ≤ s'.1 8) : QN A' e s' := fun a ha hk => by
  by_cases q : a < nxt c
  · have k5 : kl c a = 5 := by rw [← hx.k q]; exact hk
    rcases hQ a q k5 with ⟨h1, h2⟩ | ⟨b, h1, h2, h3⟩
    · exact Or.inl ⟨h12 a q h1 k5, (hx.i q (hy _)).trans h2⟩
    · exact Or.inr ⟨b, h1, by omega, by rw [h3, hE b h2]⟩
  · exact Or.inl (hW a (by omega) ha hk)
theorem NWc_nn {e : SC} (h : nxt e ≤ nxt c) : NWc (nxt c) e := fun a h1 h2 => by omega
/-- .. over an act -/
theorem DLK_act (h : DLK A c s t W) (hN : ND A c s) (hN' : ND A' e s') (hE : EXT A A' (s.1 8)) (hx : CX acY acR c e) (hW : NWc (nxt c) e) (h8 : 0 ≤ s.1 8 ∧ s.1 8 ≤ s'.1 8) (h15 : fI e 64 15 = 1) (h35 : s'.1 35 ≠ 0) (hm : ∀ x, x ∈ fl t → 0 ≤ x ∧ x < s.1 8) (hm' : ∀ x, x ∈ fl t' → x < s'.1 8 ∧ (x ∈ fl t ∨ s.1 8 ≤ x)) : DLK A' e s' t' W := by
  obtain ⟨h1, h2, h3, h4⟩ := h
  have y11 : ∀ k : Nat, (k, 11) ∉ acY := fun k => by unfold acY; simp
  have y12 : ∀ k : Nat, (k, 12) ∉ acY := fun k => by unfold acY; simp
  have h12 : ∀ a, a < nxt c → fR c a 12 = 2 → kl c a = 5 → fR e a 12 = 2 := fun a ha h _ => (hx.r ha (y12 _)).trans h
  refine ⟨⟨fun w => by omega, fun w => absurd w h35⟩, QN_up h2 hN hE hx y11 h12 hW h8.2, fun b hb => ?_, fun w => absurd w h35⟩
  obtain ⟨m1, m2⟩ := hm' b hb
  by_cases q : s.1 8 ≤ b
  · exact (new_c hN hN' h2 hE hx y11 h12 hW h8.2 h8.1 ⟨q, m1⟩).1
  · have hbt := m2.resolve_right q
    have hb := hm b hbt
    obtain ⟨⟨n1, -⟩, n9, n10⟩ := hN.2 b hb.1 hb.2
    rw [hE b hb.2]
    exact h12 _ (by omega) (h3 b hbt) n1
/-- .. over what changes neither nodes' notes nor the flag -/
theorem DLK_x (h : DLK A c s t W) (hX : FIX c) (hN : ND A c s) (hx : CX ys rs c e) (hr : RMk 0 0 c e) (hy : (∀ k, (k, 11) ∉ ys) ∧ (∀ k, (k, 12) ∉ ys) ∧ (1, 15) ∉ ys) (hm : ∀ x, x ∈ fl t → 0 ≤ x ∧ x < s.1 8) (h8 : s'.1 8 = s.1 8) (h35 : s'.1 35 = s.1 35) (h42 : ∀ b, 0 ≤ b → b < s.1 8 → s'.2 42 b = s.2 42 b) : DLK A e s' t W := by
  obtain ⟨h1, h2, h3, h4⟩ := h
  have h353 := hX.2.2.1
  have e15 : fI e 64 15 = fI c 64 15 := hx.i (by omega) (by rw [hX.wt.1]; exact hy.2.2)
  have lt : ∀ b, 0 ≤ b → b < s.1 8 → A b < nxt c := fun b b0 b1 => by
    obtain ⟨-, n9, -⟩ := hN.2 b b0 b1
    omega
  refine ⟨by rw [e15, h35]; exact h1, QN_up h2 hN EXT.rf hx hy.1 (fun a ha h _ => (hx.r ha (hy.2.1 _)).trans h) (NWc_nn hr.1) (by omega), fun b hb => ?_, fun w => ⟨fun b b0 b1 hf => ?_, fun b hb => ?_⟩⟩
  · rw [hx.r (lt b (hm b hb).1 (hm b hb).2) (hy.2.1 _)]; exact h3 b hb
  · rw [h8] at b1
    rw [h42 b b0 b1] at hf ⊢
    rw [hx.r (lt b b0 b1) (hy.2.1 _)]
    exact (h4 (by rw [← h35]; exact w)).1 b b0 b1 hf
  · rw [hx.i (lt b (hm b hb).1 (hm b hb).2) (hy.1 _)]
    exact (h4 (by rw [← h35]; exact w)).2 b hb
/-- .. over an undoing -/
theorem DLK_und (h : DLK A c s t W) (hN : ND A c s) (hx : CX unY acR c e) (hr : RMk 0 0 c e) (h15 : fI e 64 15 = 1) (h35 : s'.1 35 ≠ 0) (h8 : s'.1 8 = s.1 8) (hF : FL2 A c e (fl t')) : DLK A e s' t' W := by
  obtain ⟨h1, h2, h3, h4⟩ := h
  have y11 : ∀ k : Nat, (k, 11) ∉ unY := fun k => by unfold unY acY; simp
  refine ⟨⟨fun w => by omega, fun w => absurd w h35⟩, QN_up h2 hN EXT.rf hx y11 (fun a ha h _ => ?_) (NWc_nn hr.1) (by omega), hF.1, fun w => absurd w h35⟩
  rcases hF.2 a ha with w | w
  · exact w.trans h
  · exact w
/-- .. over a fill -/
theorem DLK_fil {o : Int} (h : DLK A c s t W) (hX : FIX c) (hN : ND A c s) (hN' : ND A' e s') (hE : EXT A A' (s.1 8)) (hx : CX unY acR c e) (hW : NWc (nxt c) e) (h8 : 0 ≤ s.1 8 ∧ s.1 8 < s'.1 8) (h15 : fI e 64 15 = fI c 64 15) (h35 : s'.1 35 = 0 ↔ s.1 35 = 0) (hm : ∀ x, x ∈ fl t → 0 ≤ x ∧ x < s.1 8) (ho : o ∈ fl t) (hm' : ∀ x, x ∈ fl t' → x < s'.1 8 ∧ ((x ∈ fl t ∧ x ≠ o) ∨ s.1 8 ≤ x)) (hFo : fR e (A o) 12 = A' (s.1 8)) (hF : ∀ a, a < nxt c → a ≠ A o → kl c a = 5 → fR e a 12 = fR c a 12) (h42 : ∀ y, s'.2 42 y = if y = o then s.1 8 + 1 else s.2 42 y) (hFB : ∀ b, 0 ≤ b → b < s.1 8 → s.2 42 b = 0 ∨ (b < s.2 42 b - 1 ∧ s.2 42 b - 1 < s.1 8)) (hFZ : ∀ b, s.1 8 ≤ b → b < 3000 → s.2 42 b = 0) (h3 : s'.1 8 ≤ 3000) (hWf : wfW s W) : DLK A' e s' t' W := by
  obtain ⟨h1, h2, h3', h4⟩ := h
  have y11 : ∀ k : Nat, (k, 11) ∉ unY := fun k => by unfold unY acY; simp
  have hob := hm o ho
  have lt : ∀ b, 0 ≤ b → b < s.1 8 → A b < nxt c ∧ kl c (A b) = 5 := fun b b0 b1 => by
    obtain ⟨⟨n1, -⟩, n9, -⟩ := hN.2 b b0 b1
    exact ⟨by omega, n1⟩
  have lo := lt o hob.1 hob.2
  -- the hole's own cell is a node's
  have h12 : ∀ a, a < nxt c → a ≠ A o → fR c a 12 = 2 → kl c a = 5 → fR e a 12 = 2 := fun a ha hn h hk => (hF a ha hn hk).trans h
  have hQ' : QN A' e s' := fun a ha hk => by
    by_cases q : a < nxt c
    · have k5 : kl c a = 5 := by rw [← hx.k q]; exact hk
      by_cases q2 : a = A o
      · exact Or.inr ⟨o, hob.1, by omega, by rw [hE o hob.2]; exact q2⟩
      · rcases h2 a q k5 with ⟨w1, w2⟩ | ⟨b, w1, w2, w3⟩
        · exact Or.inl ⟨h12 a q q2 w1 k5, (hx.i q (y11 _)).trans w2⟩
        · exact Or.inr ⟨b, w1, by omega, by rw [w3, hE b w2]⟩
    · exact Or.inl (hW a (by omega) ha hk)
  have nw : ∀ b, s.1 8 ≤ b → b < s'.1 8 → fR e (A' b) 12 = 2 ∧ fI e (A' b) 11 = -9 := fun b b0 b1 => by
    obtain ⟨⟨m1, -⟩, m9, m10⟩ := hN'.2 b (by omega) b1
    by_cases q : A' b < nxt c
    · have k5 : kl c (A' b) = 5 := by rw [← hx.k q]; exact m1
      have ne : ∀ b', 0 ≤ b' → b' < s.1 8 → A' b ≠ A b' := fun b' b0' b1' w => by
        rw [← hE b' b1'] at w
        have := hN'.inj ⟨by omega, b1⟩ w.symm
        omega
      rcases h2 _ q k5 with ⟨w1, w2⟩ | ⟨b', w1, w2, w3⟩
      · exact ⟨h12 _ q (ne o hob.1 hob.2) w1 k5, (hx.i q (y11 _)).trans w2⟩
      · exact absurd w3 (ne b' w1 w2)
    · exact hW _ (by omega) (by omega) m1
  have old : ∀ b, 0 ≤ b → b < s.1 8 → b ≠ o → fR e (A' b) 12 = fR c (A b) 12 := fun b b0 b1 hn => by
    rw [hE b b1]
    exact hF _ (lt b b0 b1).1 (fun w => hn (hN.inj hob w)) (lt b b0 b1).2
  refine ⟨by rw [h15, h35]; exact h1, hQ', fun b hb => ?_, fun w => ?_⟩
  · obtain ⟨m1, m2⟩ := hm' b hb
    by_cases q : s.1 8 ≤ b
    · exact (nw b q m1).1
    · obtain ⟨m3, m4⟩ := m2.resolve_right q
      rw [old b (hm b m3).1 (hm b m3).2 m4]
      exact h3' b m3
  · obtain ⟨w1, w2⟩ := h4 (h35.1 w)
    refine ⟨fun b b0 b1 hf => ?_, fun b hb => ?_⟩
    · rw [h42] at hf ⊢
      by_cases q : b = o
      · rw [if_pos q, q, hE o hob.2, hFo]
        congr 1; omega
      · rw [if_neg q] at hf ⊢
        by_cases q2 : b < s.1 8
        · rw [old b b0 q2 q, w1 b b0 q2 hf]
          have := (hFB b b0 q2).resolve_left (by omega)
          exact (hE _ this.2).symm
        · have := hFZ b (by omega) (by omega)
          omega
    · obtain ⟨m1, m2⟩ := hm' b hb
      by_cases q : s.1 8 ≤ b
      · rw [(nw b q m1).2]
        exact (thW_no (fun p hp w => by have := hWf p hp; omega)).symm
      · obtain ⟨m3, m4⟩ := m2.resolve_right q
        have hb' := hm b m3
        rw [hE b hb'.2, hx.i (lt b hb'.1 hb'.2).1 (y11 _)]
        exact w2 b m3
end
