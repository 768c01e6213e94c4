section
/-! What the desk keeps of fillers, of reasons then, of whether it was changed. -/
/-- the reason that was noted of a node, -9: none -/
def thW : List (Int × Int) → Int → Int
  | [], _ => -9
  | p :: r, x => if p.1 = x then p.2 else thW r x
/-- notes of nodes born, each but once -/
def wfW (s : SM) (W : List (Int × Int)) : Prop := ∀ p, p ∈ W → thW W p.1 = p.2 ∧ 0 ≤ p.2 ∧ 0 ≤ p.1 ∧ p.1 < s.1 8
theorem thW_no {W : List (Int × Int)} {x : Int} (h : ∀ p, p ∈ W → p.1 ≠ x) : thW W x = -9 := by
  induction W with
  | nil => rfl
  | cons p r ih =>
    show (if p.1 = x then p.2 else thW r x) = -9
    rw [if_neg (h p (List.mem_cons_self ..))]
    exact ih (fun q hq => h q (List.mem_cons_of_mem _ hq))
theorem thW_map {f : Int → Int} {l : List Int} {x : Int} : (x ∈ l → thW (l.map fun y => (y, f y)) x = f x) ∧ (x ∉ l → thW (l.map fun y => (y, f y)) x = -9) := by
  induction l with
  | nil => exact ⟨fun h => (by cases h), fun _ => rfl⟩
  | cons a r ih =>
    have e : thW ((a :: r).map fun y => (y, f y)) x = if a = x then f a else thW (r.map fun y => (y, f y)) x := rfl
    rw [e]
    by_cases q : a = x
    · rw [if_pos q, q]
      exact ⟨fun _ => rfl, fun h => absurd (List.mem_cons_self ..) h⟩
    · rw [if_neg q]
      refine ⟨fun h => ?_, fun h => ih.2 (fun w => h (List.mem_cons_of_mem _ w))⟩
      rcases List.mem_cons.mp h with w | w
      · exact absurd w.symm q
      · exact ih.1 w
/-- cells of nodes that are none of those born hold nothing of this -/
def QN (A : Int → Nat) (c : SC) (s : SM) : Prop := ∀ a, a < nxt c → kl c a = 5 → (fR c a 12 = 2 ∧ fI c a 11 = -9) ∨ ∃ b, 0 ≤ b ∧ b < s.1 8 ∧ a = A b
def DLK (A : Int → Nat) (c : SC) (s : SM) (t : Term) (W : List (Int × Int)) : Prop := (fI c 64 15 = 0 ↔ s.1 35 = 0) ∧ QN A c s ∧ (∀ b, b ∈ fl t → fR c (A b) 12 = 2) ∧ (s.1 35 = 0 → (∀ b, 0 ≤ b → b < s.1 8 → 0 < s.2 42 b → fR c (A b) 12 = A (s.2 42 b - 1)) ∧ ∀ b, b ∈ fl t → fI c (A b) 11 = thW W b)
section
variable {iv : List (Int × Int)} {L : Nat} {h0 : MH} {A A' : Int → Nat} {P Q : Nat → Prop} {c c0 e f : SC} {σ s s' v : SM} {t t' u : Term} {d p q a g y r : Nat} {n b x z i k : Int} {ys : List (Nat × Nat)} {rs : List Nat} {K : List Snap} {W : List (Int × Int)}
theorem new_c (hN : ND A c s) (hN' : ND A' e s') (hQ : QN A c s) (hE : EXT A A' (s.1 8)) (hx : CX ys rs c e) (hy : (∀ k, (k, 11) ∉ ys)) (h12 : ∀ a, a < nxt c → fR c a 12 = 2 → kl c a = 5 → fR e a 12 = 2) (hW : NWc (nxt c) e) (h8 : s.1 8 ≤ s'.1 8) (h0 : 0 ≤ s.1 8) (hb : s.1 8 ≤ b ∧ b < s'.1 8) : fR e (A' b) 12 = 2 ∧ fI e (A' b) 11 = -9 := by
  obtain ⟨⟨m1, -⟩, m9, m10⟩ := hN'.2 b (by omega) hb.2
  by_cases q : A' b < nxt c
  · have k5 : kl c (A' b) = 5 := by rw [← hx.k q]; exact m1
    rcases hQ _ q k5 with ⟨h1, h2⟩ | ⟨b0, h1, h2, h3⟩
    · exact ⟨h12 _ q h1 k5, (hx.i q (hy _)).trans h2⟩
    · rw [← hE b0 h2] at h3
      have := hN'.inj ⟨by omega, hb.2⟩ h3.symm
      omega
  · exact hW _ (by omega) (by omega) m1
theorem QN_up (hQ : QN A c s) (hN : ND A c s) (hE : EXT A A' (s.1 8)) (hx : CX ys rs c e) (hy : (∀ k, (k, 11) ∉ ys)) (h12 : ∀ a, a < nxt c → fR c a 12 = 2 → kl c a = 5 → fR e a 12 = 2) (hW : NWc (nxt c) e) (h8 : s.1 8 ≤ s'.1 8) : QN A' e s' := fun a ha hk => by
  by_cases q : a < nxt c
  · have k5 : kl c a = 5 := by rw [← hx.k q]; exact hk
    rcases hQ a q k5 with ⟨h1, h2⟩ | ⟨b, h1, h2, h3⟩
    · exact Or.inl ⟨h12 a q h1 k5, (hx.i q (hy _)).trans h2⟩
    · exact Or.inr ⟨b, h1, by omega, by rw [h3, hE b h2]⟩
  · exact Or.inl (hW a (by omega) ha hk)
theorem NWc_nn {e : SC} (h : nxt e ≤ nxt c) : NWc (nxt c) e := fun a h1 h2 => by omega
/-- .. over an act -/
theorem DLK_act (h : DLK A c s t W) (hN : ND A c s) (hN' : ND A' e s') (hE : EXT A A' (s.1 8)) (hx : CX acY acR c e) (hW : NWc (nxt c) e) (h8 : 0 ≤ s.1 8 ∧ s.1 8 ≤ s'.1 8) (h15 : fI e 64 15 = 1) (h35 : s'.1 35 ≠ 0) (hm : ∀ x, x ∈ fl t → 0 ≤ x ∧ x < s.1 8) (hm' : ∀ x, x ∈ fl t' → x < s'.1 8 ∧ (x ∈ fl t ∨ s.1 8 ≤ x)) : DLK A' e s' t' W := by
  obtain ⟨h1, h2, h3, h4⟩ := h
  have y11 : ∀ k : Nat, (k, 11) ∉ acY := fun k => by unfold acY; simp
  have y12 : ∀ k : Nat, (k, 12) ∉ acY := fun k => by unfold acY; simp
  have h12 : ∀ a, a < nxt c → fR c a 12 = 2 → kl c a = 5 → fR e a 12 = 2 := fun a ha h _ => (hx.r ha (y12 _)).trans h
  refine ⟨⟨fun w => by omega, fun w => absurd w h35⟩, QN_up h2 hN hE hx y11 h12 hW h8.2, fun b hb => ?_, fun w => absurd w h35⟩
  obtain ⟨m1, m2⟩ := hm' b hb
  by_cases q : s.1 8 ≤ b
  · exact (new_c hN hN' h2 hE hx y11 h12 hW h8.2 h8.1 ⟨q, m1⟩).1
  · have hbt := m2.resolve_right q
    have hb := hm b hbt
    obtain ⟨⟨n1, -⟩, n9, n10⟩ := hN.2 b hb.1 hb.2
    rw [hE b hb.2]
    exact h12 _ (by omega) (h3 b hbt) n1
/-- .. over what changes neither nodes' notes nor the flag -/
theorem DLK_x (h : DLK A c s t W) (hX : FIX c) (hN : ND A c s) (hx : CX ys rs c e) (hr : RMk 0 0 c e) (hy : (∀ k, (k, 11) ∉ ys) ∧ (∀ k, (k, 12) ∉ ys) ∧ (1, 15) ∉ ys) (hm : ∀ x, x ∈ fl t → 0 ≤ x ∧ x < s.1 8) (h8 : s'.1 8 = s.1 8) (h35 : s'.1 35 = s.1 35) (h42 : ∀ b, 0 ≤ b → b < s.1 8 → s'.2 42 b = s.2 42 b) : DLK A e s' t W := by
  obtain ⟨h1, h2, h3, h4⟩ := h
  have h353 := hX.2.2.1
  have e15 : fI e 64 15 = fI c 64 15 := hx.i (by omega) (by rw [hX.wt.1]; exact hy.2.2)
  have lt : ∀ b, 0 ≤ b → b < s.1 8 → A b < nxt c := fun b b0 b1 => by
    obtain ⟨-, n9, -⟩ := hN.2 b b0 b1
    omega
  refine ⟨by rw [e15, h35]; exact h1, QN_up h2 hN EXT.rf hx hy.1 (fun a ha h _ => (hx.r ha (hy.2.1 _)).trans h) (NWc_nn hr.1) (by omega), fun b hb => ?_, fun w => ⟨fun b b0 b1 hf => ?_, fun b hb => ?_⟩⟩
  · rw [hx.r (lt b (hm b hb).1 (hm b hb).2) (hy.2.1 _)]; exact h3 b hb
  · rw [h8] at b1
    rw [h42 b b0 b1] at hf ⊢
    rw [hx.r (lt b b0 b1) (hy.2.1 _)]
    exact (h4 (by rw [← h35]; exact w)).1 b b0 b1 hf
  · rw [hx.i (lt b (hm b hb).1 (hm b hb).2) (hy.1 _)]
    exact (h4 (by rw [← h35]; exact w)).2 b hb
/-- .. over an undoing -/
theorem DLK_und (h : DLK A c s t W) (hN : ND A c s) (hx : CX unY acR c e) (hr : RMk 0 0 c e) (h15 : fI e 64 15 = 1) (h35 : s'.1 35 ≠ 0) (h8 : s'.1 8 = s.1 8) (hF : FL2 A c e (fl t')) : DLK A e s' t' W := by
  obtain ⟨h1, h2, h3, h4⟩ := h
  have y11 : ∀ k : Nat, (k, 11) ∉ unY := fun k => by unfold unY acY; simp
  refine ⟨⟨fun w => by omega, fun w => absurd w h35⟩, QN_up h2 hN EXT.rf hx y11 (fun a ha h _ => ?_) (NWc_nn hr.1) (by omega), hF.1, fun w => absurd w h35⟩
  rcases hF.2 a ha with w | w
  · exact w.trans h
  · exact w
/-- .. over a fill -/
theorem DLK_fil {o : Int} (h : DLK A c s t W) (hX : FIX c) (hN : ND A c s) (hN' : ND A' e s') (hE : EXT A A' (s.1 8)) (hx : CX unY acR c e) (hW : NWc (nxt c) e) (h8 : 0 ≤ s.1 8 ∧ s.1 8 < s'.1 8) (h15 : fI e 64 15 = fI c 64 15) (h35 : s'.1 35 = 0 ↔ s.1 35 = 0) (hm : ∀ x, x ∈ fl t → 0 ≤ x ∧ x < s.1 8) (ho : o ∈ fl t) (hm' : ∀ x, x ∈ fl t' → x < s'.1 8 ∧ ((x ∈ fl t ∧ x ≠ o) ∨ s.1 8 ≤ x)) (hFo : fR e (A o) 12 = A' (s.1 8)) (hF : ∀ a, a < nxt c → a ≠ A o → kl c a = 5 → fR e a 12 = fR c a 12) (h42 : ∀ y, s'.2 42 y = if y = o then s.1 8 + 1 else s.2 42 y) (hFB : ∀ b, 0 ≤ b → b < s.1 8 → s.2 42 b = 0 ∨ (b < s.2 42 b - 1 ∧ s.2 42 b - 1 < s.1 8)) (hFZ : ∀ b, s.1 8 ≤ b → b < 3000 → s.2 42 b = 0) (h3 : s'.1 8 ≤ 3000) (hWf : wfW s W) : DLK A' e s' t' W := by
  obtain ⟨h1, h2, h3', h4⟩ := h
  have y11 : ∀ k : Nat, (k, 11) ∉ unY := fun k => by unfold unY acY; simp
  have hob := hm o ho
  have lt : ∀ b, 0 ≤ b → b < s.1 8 → A b < nxt c ∧ kl c (A b) = 5 := fun b b0 b1 => by
    obtain ⟨⟨n1, -⟩, n9, -⟩ := hN.2 b b0 b1
    exact ⟨by omega, n1⟩
  have lo := lt o hob.1 hob.2
  -- the hole's own cell is a node's
  have h12 : ∀ a, a < nxt c → a ≠ A o → fR c a 12 = 2 → kl c a = 5 → fR e a 12 = 2 := fun a ha hn h hk => (hF a ha hn hk).trans h
  have hQ' : QN A' e s' := fun a ha hk => by
    by_cases q : a < nxt c
    · have k5 : kl c a = 5 := by rw [← hx.k q]; exact hk
      by_cases q2 : a = A o
      · exact Or.inr ⟨o, hob.1, by omega, by rw [hE o hob.2]; exact q2⟩
      · rcases h2 a q k5 with ⟨w1, w2⟩ | ⟨b, w1, w2, w3⟩
        · exact Or.inl ⟨h12 a q q2 w1 k5, (hx.i q (y11 _)).trans w2⟩
        · exact Or.inr ⟨b, w1, by omega, by rw [w3, hE b w2]⟩
    · exact Or.inl (hW a (by omega) ha hk)
  have nw : ∀ b, s.1 8 ≤ b → b < s'.1 8 → fR e (A' b) 12 = 2 ∧ fI e (A' b) 11 = -9 := fun b b0 b1 => by
    obtain ⟨⟨m1, -⟩, m9, m10⟩ := hN'.2 b (by omega) b1
    by_cases q : A' b < nxt c
    · have k5 : kl c (A' b) = 5 := by rw [← hx.k q]; exact m1
      have ne : ∀ b', 0 ≤ b' → b' < s.1 8 → A' b ≠ A b' := fun b' b0' b1' w => by
        rw [← hE b' b1'] at w
        have := hN'.inj ⟨by omega, b1⟩ w.symm
        omega
      rcases h2 _ q k5 with ⟨w1, w2⟩ | ⟨b', w1, w2, w3⟩
      · exact ⟨h12 _ q (ne o hob.1 hob.2) w1 k5, (hx.i q (y11 _)).trans w2⟩
      · exact absurd w3 (ne b' w1 w2)
    · exact hW _ (by omega) (by omega) m1
  have old : ∀ b, 0 ≤ b → b < s.1 8 → b ≠ o → fR e (A' b) 12 = fR c (A b) 12 := fun b b0 b1 hn => by
    rw [hE b b1]
    exact hF _ (lt b b0 b1).1 (fun w => hn (hN.inj hob w)) (lt b b0 b1).2
  refine ⟨by rw [h15, h35]; exact h1, hQ', fun b hb => ?_, fun w => ?_⟩
  · obtain ⟨m1, m2⟩ := hm' b hb
    by_cases q : s.1 8 ≤ b
    · exact (nw b q m1).1
    · obtain ⟨m3, m4⟩ := m2.resolve_right q
      rw [old b (hm b m3).1 (hm b m3).2 m4]
      exact h3' b m3
  · obtain ⟨w1, w2⟩ := h4 (h35.1 w)
    refine ⟨fun b b0 b1 hf => ?_, fun b hb => ?_⟩
    · rw [h42] at hf ⊢
      by_cases q : b = o
      · rw [if_pos q, q, hE o hob.2, hFo]
        congr 1; omega
      · rw [if_neg q] at hf ⊢
        by_cases q2 : b < s.1 8
        · rw [old b b0 q2 q, w1 b b0 q2 hf]
          have := (hFB b b0 q2).resolve_left (by omega)
          exact (hE _ this.2).symm
        · have := hFZ b (by omega) (by omega)
          omega
    · obtain ⟨m1, m2⟩ := hm' b hb
      by_cases q : s.1 8 ≤ b
      · rw [(nw b q m1).2]
        exact (thW_no (fun p hp w => by have := hWf p hp; omega)).symm
      · obtain ⟨m3, m4⟩ := m2.resolve_right q
        have hb' := hm b m3
        rw [hE b hb'.2, hx.i (lt b hb'.1 hb'.2).1 (y11 _)]
        exact w2 b m3
end
end
section
/-! What the reference holds between calls, all of it. -/
def FBZ (s : SM) : Prop := ∀ b, s.1 8 ≤ b → b < 3000 → s.2 42 b = 0
/-- numbers kept are borne -/
def NVK (s : SM) (K : List Snap) : Prop := ∀ u, u ∈ K → ∀ x, x ∈ fl u.1 → nvl (s.2 9 x) (u.2.2 10 x) = u.2.2 10 x
def MS (n : Int) (s : SM) (t : Term) (K : List Snap) (Sh : Int → Option Snap) (V : Term) (W : List (Int × Int)) : Prop := (AFT s t ∧ KIs s ∧ NV s ∧ NVK s K) ∧ (BX s ∧ CM n s) ∧ (KL s K ∧ ShL s Sh) ∧ (FBK s ∧ FBZ s) ∧ (VK s V ∧ RSM s t V) ∧ WLs s W ∧ wfW s W
def msN : List Nat := [2, 8, 15, 16, 24, 35, 52, 54, 55, 61, 62, 63, 71]
def msR : List Nat := [1, 4, 5, 6, 7, 9, 10, 11, 12, 13, 14, 25, 26, 27, 28, 29, 37, 38, 39, 40, 42, 46, 47, 48, 49, 50, 51, 53, 64, 65, 72]
def mgN : List Nat := [8, 24, 35, 52, 54, 55, 61, 62, 63]
def mgR : List Nat := [9, 10, 11, 12, 13, 14, 25, 26, 27, 28, 29, 42, 46, 47, 48, 49, 50, 51, 53, 64, 65]
section
variable {s w v : SM} {t t' : Term} {n : Int} {K K' : List Snap} {Sh : Int → Option Snap} {V : Term} {W : List (Int × Int)} {ey ef : List Nat}
/-- a row without places for one call -/
theorem SX.row (hx : SX ey ef s w) {f : Nat} (h1 : f ∉ scR) (h2 : f ∉ ef) (h3 : f ≠ 4 ∧ f ≠ 5 ∧ f ≠ 6 ∧ f ≠ 7 ∧ f ≠ 9 ∧ f ≠ 10 ∧ f ≠ 11 ∧ f ≠ 12 ∧ f ≠ 13 ∧ f ≠ 14) : w.2 f = s.2 f := by
  funext i
  exact hx.2 f h1 h2 i (by unfold scI; omega)
/-- .. of nodes -/
theorem SX.nod (hx : SX ey ef s w) {f : Nat} (h1 : f = 9 ∨ f = 10 ∨ f = 11 ∨ f = 12 ∨ f = 13) (h2 : f ∉ ef) {x : Int} (h3 : x < 3000) : w.2 f x = s.2 f x :=
  hx.2 f (by rcases h1 with e | e | e | e | e <;> rw [e] <;> decide) h2 x (by unfold scI; omega)
theorem KIs_x (h : KIs s) (hx : SX ey ef s w) (hy : 2 ∉ ey) (hf : 4 ∉ ef ∧ 5 ∉ ef ∧ 6 ∉ ef ∧ 7 ∉ ef) : KIs w := by
  have h2 : w.1 2 = s.1 2 := hx.1 2 (by decide) hy
  have hn := h.1
  show KI (w.1 2) (w.2 4) (w.2 5) (w.2 6) (w.2 7)
  rw [h2]
  have e : ∀ f, (f = 4 ∨ f = 5 ∨ f = 6 ∨ f = 7) → ∀ k : Int, 0 ≤ k → k < s.1 2 → f ∉ ef → w.2 f k = s.2 f k := fun f hf k k0 k1 hq => hx.2 f (by rcases hf with e | e | e | e <;> rw [e] <;> decide) hq k (by unfold scI; omega)
  exact KI_lt h (fun k k0 k1 => ⟨e 4 (by omega) k k0 k1 hf.1, e 5 (by omega) k k0 k1 hf.2.1, e 6 (by omega) k k0 k1 hf.2.2.1, e 7 (by omega) k k0 k1 hf.2.2.2⟩)
theorem BX_x (h : BX s) (hx : SX ey ef s w) (hy : 71 ∉ ey) (hf : 72 ∉ ef) (h8 : s.1 8 ≤ w.1 8) : BX w := by
  rw [show BX w = ((0 ≤ w.1 71 ∧ w.1 71 ≤ 8) ∧ ∀ i, 0 ≤ i → i < 8 → 0 ≤ w.2 72 i ∧ w.2 72 i ≤ w.1 8) from rfl, hx.1 71 (by decide) hy, hx.row (f := 72) (by decide) hf (by decide)]
  exact ⟨h.1, fun i i0 i8 => by have := h.2 i i0 i8; omega⟩
theorem FBK_x (h : FBK s) (hx : SX ey ef s w) (hf : 42 ∉ ef) (hz : FBZ s) (h8 : s.1 8 ≤ w.1 8 ∧ w.1 8 ≤ 3000) : FBK w ∧ FBZ w := by
  have e := hx.row (f := 42) (by decide) hf (by decide)
  refine ⟨fun b b0 b1 => ?_, fun b b0 b1 => ?_⟩
  · rw [e]
    by_cases q : b < s.1 8
    · rcases h b b0 q with w | w
      · exact Or.inl w
      · exact Or.inr ⟨w.1, by omega⟩
    · exact Or.inl (hz b (by omega) (by omega))
  · rw [e]; exact hz b (by omega) b1
theorem keep_x (hx : SX ey ef s w) (hf : 46 ∉ ef ∧ 47 ∉ ef ∧ 48 ∉ ef ∧ 49 ∉ ef ∧ 50 ∉ ef ∧ 51 ∉ ef ∧ 53 ∉ ef) {lo hi elo ehi : Int} : KEEP s w lo hi elo ehi := by
  have e : ∀ f, (f = 46 ∨ f = 47 ∨ f = 48 ∨ f = 49 ∨ f = 50 ∨ f = 51 ∨ f = 53) → f ∉ ef → w.2 f = s.2 f := fun f hf hn => hx.row (by rcases hf with e | e | e | e | e | e | e <;> rw [e] <;> decide) hn (by omega)
  refine ⟨fun f u hf' _ _ => ?_, fun j _ _ => by rw [e 53 (by omega) hf.2.2.2.2.2.2]⟩
  rcases hf' with q | q | q | q | q | q <;> rw [q]
  · rw [e 46 (by omega) hf.1]
  · rw [e 47 (by omega) hf.2.1]
  · rw [e 48 (by omega) hf.2.2.1]
  · rw [e 49 (by omega) hf.2.2.2.1]
  · rw [e 50 (by omega) hf.2.2.2.2.1]
  · rw [e 51 (by omega) hf.2.2.2.2.2.1]
/-- the last value stays -/
theorem VK_x (h : VK s V) (hx : SX ey ef s w) (hy : 52 ∉ ey ∧ 54 ∉ ey ∧ 55 ∉ ey ∧ 61 ∉ ey ∧ 62 ∉ ey) (hf : 46 ∉ ef ∧ 47 ∉ ef ∧ 48 ∉ ef ∧ 49 ∉ ef ∧ 50 ∉ ef ∧ 51 ∉ ef ∧ 53 ∉ ef) (h8 : s.1 8 ≤ w.1 8) : VK w V := fun hv => by
  have e52 := hx.1 52 (by decide) hy.1
  have e54 := hx.1 54 (by decide) hy.2.1
  have e55 := hx.1 55 (by decide) hy.2.2.1
  have e61 := hx.1 61 (by decide) hy.2.2.2.1
  have e62 := hx.1 62 (by decide) hy.2.2.2.2
  have hv' : hasV s := by unfold hasV at hv ⊢; rw [e61] at hv; exact hv
  obtain ⟨a1, a2, a3⟩ := h hv'
  refine ⟨?_, ⟨a2.1, ?_⟩, VB_up h8 _ V (Nat.lt_succ_self _) a3⟩
  · unfold HB at a1 ⊢; rw [e55, e52, e54]; exact a1
  · rw [e55, e52, e54, e62]
    exact VR_k a2.2 (keep_x hx hf) (Int.le_refl _) (Int.le_refl _)
theorem WLs_x (h : WLs s W) (hx : SX ey ef s w) (hy : 63 ∉ ey) (hf : 64 ∉ ef ∧ 65 ∉ ef) : WLs w W := by
  unfold WLs at h ⊢
  rw [hx.1 63 (by decide) hy, hx.row (f := 64) (by decide) hf.1 (by decide), hx.row (f := 65) (by decide) hf.2 (by decide)]
  exact h
theorem KL_x (h : KL s K) (hx : SX ey ef s w) (h8 : s.1 8 ≤ 3000 ∧ s.1 8 ≤ w.1 8) (h9 : ∀ x, 0 ≤ x → x < s.1 8 → w.2 9 x = s.2 9 x) (hy : 24 ∉ ey) (hf : 25 ∉ ef ∧ 26 ∉ ef ∧ 27 ∉ ef ∧ 28 ∉ ef ∧ 29 ∉ ef) : KL w K :=
  KL_up h h8.2 h9 (hx.1 24 (by decide) hy) ⟨hx.row (by decide) hf.1 (by decide), hx.row (by decide) hf.2.1 (by decide), hx.row (by decide) hf.2.2.1 (by decide), hx.row (by decide) hf.2.2.2.1 (by decide), hx.row (by decide) hf.2.2.2.2 (by decide)⟩
theorem cov_x (hS : SHT s t) (hS' : SHT w t) (h9 : ∀ y, y ∈ fl t → w.2 9 y = s.2 9 y) (h10 : ∀ y, y ∈ fl t → w.2 10 y = s.2 10 y) {x : Int} (hx : x ∈ fl t) {E : Term} (h : cov s x E) : cov w x E := fun y y0 y1 hy => h y y0 y1 (by
  have := bnd_cg hS.w hS'.w (nu := s.2 10) (nu' := w.2 10) h9 (fun z hz _ => h10 z hz) 70 x y hx
  show bnd (s.2 9) (s.2 10) (s.2 12) (s.2 13) 70 x y ≠ -9
  rw [← this]
  exact hy)
theorem RSM_x (h : RSM s t V) (hS : SHT s t) (hx : SX ey ef s w) (hS' : SHT w t) (hy : ∀ y, y ∈ mgN → y ∉ ey) (hf : ∀ y, y ∈ mgR → y ∉ ef) : RSM w t V := fun hv h35 => by
  have e8 := hx.1 8 (by decide) (hy 8 (by decide))
  have e35 := hx.1 35 (by decide) (hy 35 (by decide))
  have e52 := hx.1 52 (by decide) (hy 52 (by decide))
  have e54 := hx.1 54 (by decide) (hy 54 (by decide))
  have e55 := hx.1 55 (by decide) (hy 55 (by decide))
  have e61 := hx.1 61 (by decide) (hy 61 (by decide))
  have e62 := hx.1 62 (by decide) (hy 62 (by decide))
  have e42 := hx.row (f := 42) (by decide) (hf 42 (by decide)) (by decide)
  have h9 : ∀ y, y ∈ fl t → w.2 9 y = s.2 9 y := fun y hy' => hx.nod (Or.inl rfl) (hf 9 (by decide)) (hS.lt hy').2.2
  have h10 : ∀ y, y ∈ fl t → w.2 10 y = s.2 10 y := fun y hy' => hx.nod (Or.inr (Or.inl rfl)) (hf 10 (by decide)) (hS.lt hy').2.2
  rw [e61] at hv
  rw [e35] at h35
  obtain ⟨a1, a2, a3, a4⟩ := h hv h35
  refine ⟨?_, ⟨a2.1, ?_⟩, ?_, fun y hy' hs => ?_⟩
  · unfold HB at a1 ⊢; rw [e55, e52, e54]; exact a1
  · rw [e55, e52, e54, e62]
    exact VR_k a2.2 (keep_x hx ⟨hf 46 (by decide), hf 47 (by decide), hf 48 (by decide), hf 49 (by decide), hf 50 (by decide), hf 51 (by decide), hf 53 (by decide)⟩) (Int.le_refl _) (Int.le_refl _)
  · show VG w t (tgt w t) V
    rw [tgt_e e42]
    exact VG_cg (by omega) (fun x hx' => ⟨hx', h9 x hx', fun E hE => cov_x hS hS' h9 h10 hx' hE⟩) (fun b hb _ _ => ⟨hb, fun E hE => cov_x hS hS' h9 h10 hb hE, fun q => ⟨q, by rw [q] at hb; exact h9 _ hb⟩⟩) _ V (Nat.lt_succ_self _) a3
  · rw [e42]
    rw [h9 y hy'] at hs
    exact a4 y hy' hs
theorem NVK_x (h : NVK s K) (hK : KL s K) (h9 : ∀ x, 0 ≤ x → x < s.1 8 → w.2 9 x = s.2 9 x) : NVK w K := fun u hu x hx => by
  obtain ⟨i, hi, rfl⟩ := List.mem_iff_getElem.mp hu
  have hP := (hK.2.2 i K[i] (List.getElem?_eq_getElem hi)).2
  have hb := (AT_mem K[i].1 hP.1.1 x hx).1
  rw [h9 x hb.1 hb.2]
  exact h _ hu x hx
theorem NVK_push (h : NVK s K) (hN : NV s) (hS : SHT s t) : NVK s (push K (t, s)) := fun u hu x hx => by
  unfold push at hu
  rcases List.mem_append.mp hu with q | q
  · exact h u (by
      split at q
      · exact List.mem_of_mem_tail q
      · exact q) x hx
  · rw [List.mem_singleton.mp q] at hx ⊢
    have hb := hS.lt hx
    exact (hN x hb.1 hb.2.1).1
/-- over looks, a going, findings, the box, kinds -/
theorem MS_g {n' : Int} {Sh' : Int → Option Snap} (h : MS n s t K Sh V W) (hx : SX ey ef s w) (hy : ∀ y, y ∈ mgN → y ∉ ey) (hf : ∀ y, y ∈ mgR → y ∉ ef) (hA : AFT w t) (hKI : KIs w) (hBX : BX w) (hC : CM n' w) (hS : ShL w Sh') : MS n' w t K Sh' V W := by
  obtain ⟨⟨a1, a2, a3, a4⟩, ⟨b1, b2⟩, ⟨c1, c2⟩, ⟨d1, d2⟩, ⟨e1, e2⟩, g1, g2⟩ := h
  have hB := a1.1.2.2.2.2.1
  have e8 := hx.1 8 (by decide) (hy 8 (by decide))
  have hF := FBK_x d1 hx (hf 42 (by decide)) d2 ⟨by omega, by omega⟩
  exact ⟨⟨hA, hKI, a3.x hx hB.2 (hy 8 (by decide)) ⟨hf 9 (by decide), hf 10 (by decide), hf 11 (by decide)⟩, NVK_x a4 c1 (fun x x0 x1 => hx.nod (Or.inl rfl) (hf 9 (by decide)) (by omega))⟩, ⟨hBX, hC⟩, ⟨KL_x c1 hx ⟨hB.2, by omega⟩ (fun x x0 x1 => hx.nod (Or.inl rfl) (hf 9 (by decide)) (by omega)) (hy 24 (by decide)) ⟨hf 25 (by decide), hf 26 (by decide), hf 27 (by decide), hf 28 (by decide), hf 29 (by decide)⟩, hS⟩, hF, ⟨VK_x e1 hx ⟨hy 52 (by decide), hy 54 (by decide), hy 55 (by decide), hy 61 (by decide), hy 62 (by decide)⟩ ⟨hf 46 (by decide), hf 47 (by decide), hf 48 (by decide), hf 49 (by decide), hf 50 (by decide), hf 51 (by decide), hf 53 (by decide)⟩ (by omega), RSM_x e2 a1.1 hx hA.1 hy hf⟩, WLs_x g1 hx (hy 63 (by decide)) ⟨hf 64 (by decide), hf 65 (by decide)⟩, fun p hp => by have := g2 p hp; omega⟩
theorem CM_up {n' : Int} (h : CM n s) (hn : n ≤ n') : CM n' s := fun f f0 f6 => by have := h f f0 f6; omega
theorem MS_up {n' : Int} (h : MS n s t K Sh V W) (hn : n ≤ n') : MS n' s t K Sh V W := ⟨h.1, ⟨h.2.1.1, CM_up h.2.1.2 hn⟩, h.2.2⟩
/-- over what changes nothing that is kept -/
theorem MS_x (h : MS n s t K Sh V W) (hx : SX ey ef s w) (hy : ∀ y, y ∈ msN → y ∉ ey) (hf : ∀ y, y ∈ msR → y ∉ ef) : MS n w t K Sh V W := by
  obtain ⟨⟨a1, a2, a3, a4⟩, ⟨b1, b2⟩, ⟨c1, c2⟩, -⟩ := id h
  have e8 := hx.1 8 (by decide) (hy 8 (by decide))
  have m1 : ∀ y, y ∈ mgN → y ∈ msN := by decide
  have m2 : ∀ y, y ∈ mgR → y ∈ msR := by decide
  exact MS_g h hx (fun y q => hy y (m1 y q)) (fun y q => hf y (m2 y q)) (a1.x hx ⟨hy 2 (by decide), hy 8 (by decide), hy 15 (by decide), hy 16 (by decide)⟩ ⟨hf 9 (by decide), hf 10 (by decide), hf 11 (by decide), hf 12 (by decide), hf 13 (by decide), hf 14 (by decide)⟩) (KIs_x a2 hx (hy 2 (by decide)) ⟨hf 4 (by decide), hf 5 (by decide), hf 6 (by decide), hf 7 (by decide)⟩) (BX_x b1 hx (hy 71 (by decide)) (hf 72 (by decide)) (by omega)) (b2.x hx (hf 1 (by decide))) (c2.x hx (hy 2 (by decide)) ⟨hf 37 (by decide), hf 38 (by decide), hf 39 (by decide), hf 40 (by decide)⟩)
/-- a finding more -/
theorem MS_mt {f : Int} (h : MS n s t K Sh V W) (hf : 0 ≤ f ∧ f < 6) : MS (n + 1) (mtU s f) t K Sh V W := by
  obtain ⟨⟨a1, a2, a3, a4⟩, ⟨b1, b2⟩, ⟨c1, c2⟩, -⟩ := id h
  have hx : SX [0] [1] s (mtU s f) := SX.eq (ys := [0]) (fs := [1]) (eqx_ua (eqx_us eqx.rf (by decide)) (by decide)) (by decide) (by decide)
  refine MS_g h hx (by decide) (by decide) (a1.x hx (by decide) (by decide)) (KIs_x a2 hx (by decide) (by decide)) (BX_x b1 hx (by decide) (by decide) (Int.le_refl _)) (fun g g0 g6 => ?_) (c2.x hx (by decide) (by decide))
  have h1 := b2 g g0 g6
  show 0 ≤ (if (1 : Nat) = 1 ∧ g = f then s.2 1 f + 1 else s.2 1 g) ∧ (if (1 : Nat) = 1 ∧ g = f then s.2 1 f + 1 else s.2 1 g) ≤ n + 1
  by_cases q : g = f
  · rw [if_pos ⟨rfl, q⟩, ← q]; omega
  · rw [if_neg (fun z => q z.2)]; omega
/-- over an act -/
theorem MS_act (h : MS n s t K Sh V W) (hx : SX [8, 15, 16, 24, 35] [9, 10, 11, 12, 13, 14, 25, 26, 27, 28, 29] s v) (h8 : s.1 8 ≤ v.1 8) (hA : AFT v t') (hN : NV v ∧ NVK v K') (hK : KL v K') (h35 : v.1 35 ≠ 0) : MS n v t' K' Sh V W := by
  obtain ⟨⟨a1, a2, a3, a4⟩, ⟨b1, b2⟩, ⟨c1, c2⟩, ⟨d1, d2⟩, ⟨e1, e2⟩, g1, g2⟩ := h
  have hB := hA.1.2.2.2.2.1
  exact ⟨⟨hA, KIs_x a2 hx (by decide) (by decide), hN⟩, ⟨BX_x b1 hx (by decide) (by decide) h8, b2.x hx (by decide)⟩, ⟨hK, c2.x hx (by decide) (by decide)⟩, FBK_x d1 hx (by decide) d2 ⟨h8, hB.2⟩, ⟨VK_x e1 hx (by decide) (by decide) h8, fun _ w => absurd w h35⟩, WLs_x g1 hx (by decide) (by decide), fun p hp => by have := g2 p hp; omega⟩
end
end
section
/-! What the reference holds between calls: behind undo, work, resume, fill. -/
theorem VG_cg2 {s w : SM} {t t' : Term} {g g' : Int → Int} (h8 : s.1 8 ≤ w.1 8) (hm : ∀ x, x ∈ fl t → s.2 9 x ≠ 0 → x ∈ fl t' ∧ w.2 9 x = s.2 9 x ∧ ∀ E, cov s x E → cov w x E) (hg : ∀ b, g b ∈ fl t → 0 ≤ b → b < s.1 8 → g' b ∈ fl t' ∧ (∀ E, cov s (g b) E → cov w (g' b) E) ∧ (g' b = b → g b = b ∧ w.2 9 b = s.2 9 b)) : ∀ (n : Nat) (V : Term), SizeOf.sizeOf V < n → VG s t g V → VG w t' g' V := by
  intro n
  induction n with
  | zero => intro V h; omega
  | succ n ih =>
    intro V hn h
    cases V with
    | sub d E =>
      cases d with
      | index d =>
        obtain ⟨⟨h1, h2⟩, h3, h4, h5⟩ := h
        obtain ⟨m1, m2, m3⟩ := hm _ h1 (by omega)
        exact ⟨⟨m1, m2.trans h2⟩, m3 E h3, h4, ih E (by simp at hn; omega) h5⟩
      | _ => exact h.elim
    | add A B => exact ⟨⟨h.1.1, ih A (by simp at hn; omega) h.1.2⟩, h.2.1, ih B (by simp at hn; omega) h.2.2⟩
    | div d E =>
      cases d with
      | index b =>
        obtain ⟨⟨h1, h2, h3⟩, h4, h5, h6⟩ := h
        obtain ⟨m1, m2, m3⟩ := hg b h2 (by omega) h1
        exact ⟨⟨by omega, m1, fun q => by obtain ⟨q1, q2⟩ := m3 q; rw [q2]; exact h3 q1⟩, m2 E h4, h5, ih E (by simp at hn; omega) h6⟩
      | _ => exact h.elim
    | length A => exact ⟨h.1, ih A (by simp at hn; omega) h.2⟩
    | rem b q =>
      cases b with
      | index b =>
        cases q with
        | elem A q =>
          cases q with
          | elem B E =>
            obtain ⟨⟨b1, a1, a2⟩, hc⟩ := h
            obtain ⟨m1, m2, m3⟩ := hm _ b1 (by omega)
            refine ⟨⟨m1, a1, ih A (by simp at hn; omega) a2⟩, ?_⟩
            rw [m2]
            rcases hc with ⟨c1, c2, c3, c4⟩ | ⟨c1, c2, c3, c4, c5⟩ | c
            · exact Or.inl ⟨c1, c2, ih B (by simp at hn; omega) c3, c4⟩
            · exact Or.inr (Or.inl ⟨c1, c2, c3, m3 E c4, ih E (by simp at hn; omega) c5⟩)
            · exact Or.inr (Or.inr c)
          | _ => exact h.elim
        | _ => exact h.elim
      | _ => exact h.elim
    | mul r x =>
      have h : VG s t g r ∧ (x = .null ∨ (isV x = true ∧ VG s t g x)) := h
      exact ⟨ih r (by simp at hn; omega) h.1, h.2.imp id (fun q => ⟨q.1, ih x (by simp at hn; omega) q.2⟩)⟩
    | int z => trivial
    | arg z => exact h
    | index z => exact h
    | null => trivial
    | _ => exact h.elim
section
variable {s w v : SM} {t t' : Term} {n p : Int} {K K0 K' : List Snap} {Sh : Int → Option Snap} {V : Term} {W : List (Int × Int)} {ey ef : List Nat} {u e : Snap} {R : RS}
theorem MS_und (h : MS n s t K Sh V W) (hK : K = K0 ++ [u]) (hx : SX [24] [12, 13, 14] (undU s u) v) (hT : SHT v u.1) (hKL : KL v K0) : MS n v u.1 K0 Sh V W := by
  obtain ⟨⟨a1, a2, a3, a4⟩, ⟨b1, b2⟩, ⟨c1, c2⟩, -⟩ := id h
  have hB := a1.1.2.2.2.2.1
  have hu : u ∈ K := by rw [hK]; simp
  have hP : KP s u := by
    obtain ⟨i, hi, rfl⟩ := List.mem_iff_getElem.mp hu
    exact (c1.2.2 i K[i] (List.getElem?_eq_getElem hi)).2
  have x0 : SX [15, 16, 35] [10] s (undU s u) := ⟨fun y _ hy => by
    show (if y = 15 then hd u.1 else if y = 16 then u.2.1 16 else if y = 35 then 1 else s.1 y) = s.1 y
    simp at hy
    rw [if_neg (by omega), if_neg (by omega), if_neg (by omega)], fun f _ hf i _ => by
    show (if f = 10 ∧ i ∈ fl u.1 then u.2.2 10 i else s.2 f i) = s.2 f i
    simp at hf
    rw [if_neg (fun q => hf q.1)]⟩
  have xv : SX [8, 15, 16, 24, 35] [9, 10, 11, 12, 13, 14, 25, 26, 27, 28, 29] s v := (x0.up (by decide) (by decide)).tr (hx.up (by decide) (by decide))
  have x1 : SX [15, 16, 24, 35] [10, 12, 13, 14] s v := (x0.up (by decide) (by decide)).tr (hx.up (by decide) (by decide))
  have e8 : v.1 8 = s.1 8 := x1.1 8 (by decide) (by decide)
  have h9 : ∀ x, 0 ≤ x → x < s.1 8 → v.2 9 x = s.2 9 x := fun x x0 x1' => x1.nod (Or.inl rfl) (by decide) (by omega)
  have e35 : v.1 35 = 1 := (hx.1 35 (by decide) (by decide)).trans rfl
  refine MS_act h xv (by omega) (undo_aft a1.2.1 hB.2 hP hx hT) ⟨fun x x0' x1' => ?_, fun w hw x hx' => ?_⟩ hKL (by omega)
  · rw [e8] at x1'
    have e10 : v.2 10 x = if x ∈ fl u.1 then u.2.2 10 x else s.2 10 x := by
      rw [hx.nod (f := 10) (Or.inr (Or.inl rfl)) (by decide) (by omega)]
      show (if 10 = 10 ∧ x ∈ fl u.1 then u.2.2 10 x else s.2 10 x) = _
      by_cases q : x ∈ fl u.1
      · rw [if_pos ⟨rfl, q⟩, if_pos q]
      · rw [if_neg (fun z => q z.2), if_neg q]
    rw [h9 x x0' x1', e10, x1.nod (f := 11) (Or.inr (Or.inr (Or.inl rfl))) (by decide) (by omega)]
    by_cases q : x ∈ fl u.1
    · rw [if_pos q]
      exact ⟨a4 u hu x q, (a3 x x0' x1').2⟩
    · rw [if_neg q]
      exact a3 x x0' x1'
  · exact NVK_x a4 c1 h9 w (by rw [hK]; exact List.mem_append_left _ hw) x hx'
theorem MS_wdn {hf : Int} (h : MS n s t K Sh V W) (hw : WDN s t R hf v) (hR : R.2.1 = 0 ∨ 2 ≤ R.2.1) (hj : ∀ x, x ∈ fl t → 0 ≤ (jdg s t).2.2 x) : MS n v t K Sh R.2.2.2 (wrL s t) := by
  obtain ⟨⟨a1, a2, a3, a4⟩, ⟨b1, b2⟩, ⟨c1, c2⟩, ⟨d1, d2⟩, -⟩ := id h
  obtain ⟨hx, ⟨w1, w2, w3, w4, w5⟩, ⟨w6, w7⟩, w8, w9⟩ := hw
  have hB := a1.1.2.2.2.2.1
  have e8 : v.1 8 = s.1 8 := hx.1 8 (by decide) (by decide)
  have h9 : ∀ x, 0 ≤ x → x < s.1 8 → v.2 9 x = s.2 9 x := fun x x0 x1' => hx.nod (Or.inl rfl) (by decide) (by omega)
  have hA : AFT v t := a1.x hx (by decide) (by decide)
  have n9 : ∀ y, y ∈ fl t → v.2 9 y = s.2 9 y := fun y hy => hx.nod (Or.inl rfl) (by decide) (a1.1.lt hy).2.2
  have n10 : ∀ y, y ∈ fl t → v.2 10 y = s.2 10 y := fun y hy => hx.nod (Or.inr (Or.inl rfl)) (by decide) (a1.1.lt hy).2.2
  have hVN : R.2.1 = 0 → VN v t R.2.2.2 := fun g => VG_cg (by omega) (fun x hx' => ⟨hx', n9 x hx', fun E hE => cov_x a1.1 hA.1 n9 n10 hx' hE⟩) (fun b hb _ _ => ⟨hb, fun E hE => cov_x a1.1 hA.1 n9 n10 hb hE, fun _ => ⟨rfl, n9 _ hb⟩⟩) _ _ (Nat.lt_succ_self _) (w9 g).2.2
  have hv0 : hasV v → R.2.1 = 0 := fun hv => by
    unfold hasV at hv
    rw [w5] at hv
    unfold outE at hv
    by_cases g : R.2.1 = 0
    · exact g
    · rw [if_neg g] at hv
      omega
  refine ⟨⟨hA, KIs_x a2 hx (by decide) (by decide), a3.x hx hB.2 (by decide) (by decide), NVK_x a4 c1 h9⟩, ⟨BX_x b1 hx (by decide) (by decide) (by omega), b2.x hx (by decide)⟩, ⟨KL_x c1 hx ⟨hB.2, by omega⟩ h9 (by decide) (by decide), c2.x hx (by decide) (by decide)⟩, ⟨fun b b0 b1' => Or.inl (w6 b b0 (by omega)), fun b b0 b1' => (w7 b (by omega)).trans (d2 b (by omega) b1')⟩, ⟨fun hv => ⟨(w9 (hv0 hv)).1, (w9 (hv0 hv)).2.1, VB_g hA.1 _ _ (Nat.lt_succ_self _) (hVN (hv0 hv))⟩, fun hv _ => ⟨(w9 (hv0 hv)).1, (w9 (hv0 hv)).2.1, ?_, fun y hy _ => ?_⟩⟩, w8, fun p hp => ?_⟩
  · have hv1 := hVN (hv0 hv)
    show VG v t (tgt v t) R.2.2.2
    refine VG_cg (Int.le_refl _) (fun x hx' => ⟨hx', rfl, fun E hE => hE⟩) (fun b hb b0 b1' => ?_) _ _ (Nat.lt_succ_self _) hv1
    have hb : b ∈ fl t := hb
    have e : tgt v t b = b := if_pos hb
    rw [e]
    exact ⟨hb, fun E hE => hE, fun _ => ⟨rfl, rfl⟩⟩
  · have hb := a1.1.lt hy
    show (if 0 < v.2 42 y then fllN (v.2 42) 3003 (v.2 42 y - 1) else y) = y
    rw [w6 y hb.1 hb.2.1, if_neg (by omega)]
  · unfold wrL at hp ⊢
    obtain ⟨x, hx', rfl⟩ := List.mem_map.mp hp
    have hb := a1.1.lt hx'
    have hr := hj x hx'
    exact ⟨thW_map.1 hx', hr, hb.1, by omega⟩
/-- chains of fillers, one more filled -/
theorem fll_fil {fb fv : Int → Int} {o B : Int} (ho : 0 ≤ o ∧ o < B) (h0 : fb o ≤ 0) (hv : ∀ y, fv y = if y = o then B + 1 else fb y) (hB : fb B ≤ 0) (hF : ∀ b, 0 ≤ b → b < B → fb b = 0 ∨ (b < fb b - 1 ∧ fb b - 1 < B)) : ∀ (n : Nat) (b : Int), 0 ≤ b → b < B → B - b + 1 ≤ n → (fllN fb n b ≠ o → fllN fv n b = fllN fb n b) ∧ (fllN fb n b = o → fllN fv n b = B) := by
  intro n
  induction n with
  | zero => intro b b0 b1 hn; omega
  | succ n ih =>
    intro b b0 b1 hn
    show ((if 0 < fb b then fllN fb n (fb b - 1) else b) ≠ o → (if 0 < fv b then fllN fv n (fv b - 1) else b) = (if 0 < fb b then fllN fb n (fb b - 1) else b)) ∧ ((if 0 < fb b then fllN fb n (fb b - 1) else b) = o → (if 0 < fv b then fllN fv n (fv b - 1) else b) = B)
    by_cases q : b = o
    · have e1 : ¬ 0 < fb b := by rw [q]; omega
      have e2 : fv b = B + 1 := by rw [hv, if_pos q]
      rw [if_neg e1, e2, if_pos (by omega)]
      refine ⟨fun w => absurd q w, fun _ => ?_⟩
      rw [show B + 1 - 1 = B by omega]
      cases n with
      | zero => rfl
      | succ n =>
        show (if 0 < fv B then fllN fv n (fv B - 1) else B) = B
        have e3 : fv B = fb B := by rw [hv, if_neg (by omega)]
        rw [e3, if_neg (by omega)]
    · have e2 : fv b = fb b := by rw [hv, if_neg q]
      rw [e2]
      by_cases z : 0 < fb b
      · rw [if_pos z, if_pos z]
        have h2 := (hF b b0 b1).resolve_left (by omega)
        exact ih (fb b - 1) (by omega) h2.2 (by omega)
      · rw [if_neg z, if_neg z]
        exact ⟨fun _ => rfl, fun w => absurd w q⟩
theorem sq_leaf0 (hS : SHT s t) (hc : s.1 16 ∈ fl t) (h0 : s.2 9 (s.1 16) = 0) : fl (sq (s.1 16) t) = [s.1 16] := by
  obtain ⟨b1, b2, b3, -⟩ := sq_ok hS.1 hS.2.1 hS.2.2.1 hc
  unfold full at b2
  rw [b3, h0] at b2
  have hp : pO 0 = 0 := by decide
  rw [hp] at b2
  generalize sq (s.1 16) t = q at *
  cases q with
  | index b =>
    have b3 : (b : Int) = s.1 16 := b3
    show [(b : Int)] = _
    rw [b3]
  | add x y =>
    exfalso
    have : na (.add x y) = na x + 1 := rfl
    have h1 := na_ge x
    omega
  | _ => exact b1.elim
/-- what a filled sheet is made of -/
theorem fil_mem (hS : SHT s t) (hc : s.1 16 ∈ fl t) (h0 : s.2 9 (s.1 16) = 0) (he : AT (e.2.2 9) (e.2.2 14) (e.2.2 12) (e.2.2 13) (e.2.1 8) e.1) (x : Int) : x ∈ fl (filT s t e) ↔ (x ∈ fl t ∧ x ≠ s.1 16) ∨ (s.1 8 ≤ x ∧ x < s.1 8 + (fl e.1).length) := by
  obtain ⟨a, z, h1, h2, -⟩ := rpT_fl hS.1 hS.2.2.1 hc
  have hB := hS.2.2.2.2.1
  have h2 := h2 (rlb e.1 (s.1 8).toNat)
  have hl := sq_leaf0 hS hc h0
  rw [hl] at h1
  have hnd := hS.2.2.1
  rw [h1] at hnd
  have hm : x ∈ fl (rlb e.1 (s.1 8).toNat) ↔ (s.1 8 ≤ x ∧ x < s.1 8 + (fl e.1).length) := by
    refine ⟨fun h => by have := rlb_at he h; omega, fun h => ?_⟩
    rw [(rlb_fl e.1 (s.1 8).toNat he).1]
    exact List.mem_map.mpr ⟨x.toNat, List.mem_range'_1.mpr ⟨by omega, by omega⟩, by show ((x.toNat : Nat) : Int) = x; omega⟩
  unfold filT
  rw [h2, h1]
  simp only [List.mem_append, List.mem_singleton, hm]
  have na1 : s.1 16 ∉ a := fun q => (List.nodup_append.mp hnd).2.2 _ q _ (by simp) rfl
  have na2 : s.1 16 ∉ z := fun q => by
    have := (List.nodup_append.mp hnd).2.1
    simp at this
    exact this.1 q
  refine ⟨fun h => ?_, fun h => ?_⟩
  · rcases h with q | q | q
    · exact Or.inl ⟨Or.inl q, fun w => na1 (w ▸ q)⟩
    · exact Or.inr q
    · exact Or.inl ⟨Or.inr (Or.inr q), fun w => na2 (w ▸ q)⟩
  · rcases h with ⟨q | q | q, w⟩ | q
    · exact Or.inl q
    · exact absurd q w
    · exact Or.inr (Or.inr q)
    · exact Or.inr (Or.inl q)
theorem bnd_fil (hS : SHT s t) (hc : s.1 16 ∈ fl t) (h0 : s.2 9 (s.1 16) = 0) (h9 : ∀ y, y < s.1 8 → v.2 9 y = s.2 9 y ∧ v.2 10 y = s.2 10 y) (h12 : ∀ y, y < s.1 8 → v.2 12 y = s.2 12 y ∧ v.2 13 y = s.2 13 y) : ∀ (n : Nat) (b x : Int), b ∈ fl t → bnd (v.2 9) (v.2 10) (v.2 12) (v.2 13) n b x = bnd (s.2 9) (s.2 10) (s.2 12) (s.2 13) n b x := by
  intro n
  induction n with
  | zero => intro b x _; rfl
  | succ n ih =>
    intro b x hb
    have hbl := hS.lt hb
    unfold bnd
    rw [(h12 b hbl.2.1).1, (h12 b hbl.2.1).2]
    by_cases q : s.2 12 b = -9
    · rw [if_pos q, if_pos q]
    · rw [if_neg q, if_neg q]
      have hu : s.2 12 b ∈ fl t := hS.up9 hb (fun w => q (by rw [w]; exact hS.2.2.2.2.2.2.1))
      have hul := hS.lt hu
      rw [(h9 _ hul.2.1).1, (h9 _ hul.2.1).2, ih _ x hu]
theorem MS_fil (h : MS n s t K Sh V W) (hp : 0 ≤ p ∧ p < 6) (hSp : Sh p = some e) (h0 : s.2 9 (s.1 16) = 0) (hF : FDONE s t K e v) : MS n v (filT s t e) (push K (t, s)) Sh V W := by
  obtain ⟨⟨a1, a2, a3, a4⟩, ⟨b1, b2⟩, ⟨c1, c2⟩, ⟨d1, d2⟩, ⟨e1, e2⟩, g1, g2⟩ := id h
  obtain ⟨hx, ⟨w1, w2, w3⟩, w4, w5, w6, w7, w8, w9, w10, w11⟩ := hF
  have hS := a1.1
  have hc := a1.2.2
  have hcl := hS.lt hc
  have hB := hS.2.2.2.2.1
  have hB' := w8.1.2.2.2.2.1
  obtain ⟨-, f2⟩ := c2 p hp.1 hp.2
  obtain ⟨f3, f4, f5⟩ := f2 e hSp
  have hpos := List.length_pos_of_mem (hd_mem _ f4.1)
  have mem := fil_mem hS hc h0 f4.1
  have h9 : ∀ y, y < s.1 8 → v.2 9 y = s.2 9 y ∧ v.2 10 y = s.2 10 y := fun y hy => ⟨(w4 y hy).1, (w4 y hy).2.1⟩
  have hbn := bnd_fil hS hc h0 h9 w9
  have hcov : ∀ x, x ∈ fl t → ∀ E, cov s x E → cov v x E := fun x hx' E hE y y0 y1 hy => hE y y0 y1 (by
    show bnd (s.2 9) (s.2 10) (s.2 12) (s.2 13) 70 x y ≠ -9
    rw [← hbn 70 x y hx']
    exact hy)
  have hcov2 : ∀ E, cov s (s.1 16) E → cov v (s.1 8) E := fun E hE y y0 y1 hy => hE y y0 y1 (by
    have e1 : bnd (v.2 9) (v.2 10) (v.2 12) (v.2 13) 70 (s.1 8) y = bnd (v.2 9) (v.2 10) (v.2 12) (v.2 13) 70 (s.1 16) y := by
      unfold bnd
      rw [w10, w11, (w9 _ hcl.2.1).1, (w9 _ hcl.2.1).2]
    show bnd (s.2 9) (s.2 10) (s.2 12) (s.2 13) 70 (s.1 16) y ≠ -9
    rw [← hbn 70 _ y hc, ← e1]
    exact hy)
  have hz8 : s.2 42 (s.1 8) = 0 := d2 _ (Int.le_refl _) (by omega)
  refine ⟨⟨w8, KIs_x a2 hx (by decide) (by decide), fun x x0 x1 => ?_, fun u hu x hx' => ?_⟩, ⟨BX_x b1 hx (by decide) (by decide) (by omega), b2.x hx (by decide)⟩, ⟨w7, c2.x hx (by decide) (by decide)⟩, ⟨fun b b0 b1' => ?_, fun b b0 b1' => ?_⟩, ⟨VK_x e1 hx (by decide) (by decide) (by omega), fun hv h35 => ?_⟩, WLs_x g1 hx (by decide) (by decide), fun p hp => by have := g2 p hp; omega⟩
  · by_cases q : x < s.1 8
    · obtain ⟨q1, q2, q3⟩ := w4 x q
      rw [q1, q2, q3]
      exact a3 x x0 q
    · obtain ⟨k, hk⟩ : ∃ k : Nat, x = s.1 8 + k := ⟨(x - s.1 8).toNat, by omega⟩
      have hkl : k < (fl e.1).length := by omega
      have hg := List.getElem?_eq_getElem hkl
      obtain ⟨q1, q2, q3⟩ := w5 k _ hg
      rw [hk, q1, q2, q3]
      exact (f5 k _ hg).2.2.2.2.2
  · have hq := NVK_push a4 a3 hS u hu x hx'
    have hub : 0 ≤ x ∧ x < s.1 8 := by
      unfold push at hu
      rcases List.mem_append.mp hu with q | q
      · have hq : u ∈ K := by
          split at q
          · exact List.mem_of_mem_tail q
          · exact q
        obtain ⟨i, hi, rfl⟩ := List.mem_iff_getElem.mp hq
        exact (AT_mem K[i].1 (c1.2.2 i K[i] (List.getElem?_eq_getElem hi)).2.1.1 x hx').1
      · rw [List.mem_singleton.mp q] at hx'
        have := hS.lt hx'
        exact ⟨this.1, this.2.1⟩
    rw [(w4 x hub.2).1]
    exact hq
  · rw [w6]
    by_cases q : b = s.1 16
    · rw [if_pos q]; right; omega
    · rw [if_neg q]
      by_cases q2 : b < s.1 8
      · rcases d1 b b0 q2 with z | z
        · exact Or.inl z
        · exact Or.inr ⟨z.1, by omega⟩
      · exact Or.inl (d2 b (by omega) (by omega))
  · rw [w6, if_neg (by omega)]
    exact d2 b (by omega) b1'
  · have s35 : s.1 35 = 0 := by
      rw [w3] at h35
      unfold chg at h35
      by_cases q : s.1 35 = 0
      · exact q
      · rw [if_pos q] at h35; cases h35
    have e52 := hx.1 52 (by decide) (by decide)
    have e54 := hx.1 54 (by decide) (by decide)
    have e55 := hx.1 55 (by decide) (by decide)
    have e61 := hx.1 61 (by decide) (by decide)
    have e62 := hx.1 62 (by decide) (by decide)
    rw [e61] at hv
    obtain ⟨q1, q2, q3, q4⟩ := e2 hv s35
    have f0 : s.2 42 (s.1 16) ≤ 0 := by
      have h1 := q4 _ hc h0
      by_cases z : 0 < s.2 42 (s.1 16)
      · have h2 := (d1 _ hcl.1 hcl.2.1).resolve_left (by omega)
        have h1 : (if 0 < s.2 42 (s.1 16) then fllN (s.2 42) 3003 (s.2 42 (s.1 16) - 1) else s.1 16) = s.1 16 := h1
        rw [if_pos z] at h1
        have := fill_gt d1 3003 (s.2 42 (s.1 16) - 1) (by omega) h2.2
        omega
      · omega
    have ff := fun b b0 b1 => fll_fil (fb := s.2 42) (fv := v.2 42) (o := s.1 16) (B := s.1 8) ⟨hcl.1, hcl.2.1⟩ f0 w6 (by omega) d1 3004 b b0 b1 (by omega)
    have new : s.1 8 ∈ fl (filT s t e) := (mem _).mpr (Or.inr ⟨Int.le_refl _, by omega⟩)
    have keepm : ∀ x, x ∈ fl t → x ≠ s.1 16 → x ∈ fl (filT s t e) := fun x h1 h2 => (mem x).mpr (Or.inl ⟨h1, h2⟩)
    refine ⟨?_, ⟨q2.1, ?_⟩, ?_, fun y hy hs => ?_⟩
    · unfold HB at q1 ⊢; rw [e55, e52, e54]; exact q1
    · rw [e55, e52, e54, e62]
      exact VR_k q2.2 (keep_x hx (by decide)) (Int.le_refl _) (Int.le_refl _)
    · show VG v (filT s t e) (tgt v (filT s t e)) V
      refine VG_cg2 (by omega) (fun x hx' h9' => ⟨keepm x hx' (fun w => h9' (by rw [w]; exact h0)), (w4 x (hS.lt hx').2.1).1, hcov x hx'⟩) (fun b hb b0 b1' => ?_) _ V (Nat.lt_succ_self _) q3
      by_cases bt : b ∈ fl t
      · have et : tgt s t b = b := if_pos bt
        rw [et]
        by_cases bc : b = s.1 16
        · have en : ¬ b ∈ fl (filT s t e) := fun w => by
            rcases (mem b).mp w with z | z
            · exact z.2 bc
            · omega
          have ev : tgt v (filT s t e) b = s.1 8 := by
            have h1 : fllF (s.2 42) b = b := q4 b bt (by rw [bc]; exact h0)
            have h2 := (ff b b0 b1').2 (by show fllF (s.2 42) b = _; rw [h1, bc])
            show (if b ∈ fl (filT s t e) then b else fllF (v.2 42) b) = _
            rw [if_neg en]
            exact h2
          rw [ev, bc]
          exact ⟨new, fun E hE => hcov2 E hE, fun w => by omega⟩
        · have hm' := keepm b bt bc
          have ev : tgt v (filT s t e) b = b := if_pos hm'
          rw [ev]
          exact ⟨hm', fun E hE => hcov b bt E hE, fun _ => ⟨rfl, (w4 b b1').1⟩⟩
      · have et : tgt s t b = fllF (s.2 42) b := if_neg bt
        rw [et] at hb ⊢
        have en : ¬ b ∈ fl (filT s t e) := fun w => by
          rcases (mem b).mp w with z | z
          · exact bt z.1
          · omega
        have ev : tgt v (filT s t e) b = fllF (v.2 42) b := if_neg en
        rw [ev]
        by_cases yc : fllF (s.2 42) b = s.1 16
        · have h2 : fllF (v.2 42) b = s.1 8 := (ff b b0 b1').2 yc
          rw [h2, yc]
          exact ⟨new, fun E hE => hcov2 E hE, fun w => by omega⟩
        · have h2 : fllF (v.2 42) b = fllF (s.2 42) b := (ff b b0 b1').1 yc
          rw [h2]
          exact ⟨keepm _ hb yc, fun E hE => hcov _ hb E hE, fun w => absurd (w ▸ hb) bt⟩
    · rcases (mem y).mp hy with z | z
      · have hyl := hS.lt z.1
        have h1 : fllF (s.2 42) y = y := q4 y z.1 (by rw [← (w4 y hyl.2.1).1]; exact hs)
        have h2 : fllF (v.2 42) y = fllF (s.2 42) y := (ff y hyl.1 hyl.2.1).1 (by show fllF (s.2 42) y ≠ _; rw [h1]; exact z.2)
        rw [h2, h1]
      · show (if 0 < v.2 42 y then fllN (v.2 42) 3003 (v.2 42 y - 1) else y) = y
        have e3 : v.2 42 y = 0 := by
          rw [w6, if_neg (by omega)]
          exact d2 y z.1 (by omega)
        rw [e3, if_neg (by omega)]
end
end
section
/-! The desk beside the reference, between two calls. -/
/-- the desk's last working -/
def WKD (A : Int → Nat) (c : SC) (s : SM) (V : Term) : Prop := ∃ p q, PLP c p q ∧ ((hasV s → fR c 176 6 ≠ 2 ∧ HLD A c s p V (fR c 176 6) ∧ WO A (YNG c p) c 183 (wrt s V)) ∧ (¬ hasV s → fR c 176 6 = 2)) ∧ (fI c 176 3 = s.1 56 ∧ fI c 176 5 = s.1 60) ∧ (if fI c 176 4 = -1 then -9 else fI c 176 4) = s.1 61
def PAIR (n : Int) (s : SM) (c : SC) : Prop := ∃ A t K Sh V W, MS n s t K Sh V W ∧ DKc A c s t K Sh ∧ WKD A c s V ∧ DLK A c s t W
/-- the room of a call -/
def RQ (c e : SC) : Prop := nxt e + PHI e ≤ nxt c + PHI c + 130 ∧ slo e + 7 * PHI e ≤ slo c + 7 * PHI c + 1200
section
variable {A A' : Int → Nat} {c e : SC} {s s' w v : SM} {t t' : Term} {n : Int} {K K' : List Snap} {Sh : Int → Option Snap} {V : Term} {W : List (Int × Int)} {ey ef : List Nat} {ys : List (Nat × Nat)} {rs : List Nat} {d p q : Nat} {o : List Int × List Term}
theorem RQ.rf : RQ c c := ⟨Nat.le_add_right _ _, Nat.le_add_right _ _⟩
theorem RQ_cx (hX : FIX c) (hx : CX ys rs c e) (h : NPY ys rs) {k m : Nat} (hr : RMk k m c e) (hk : k ≤ 130) (hm : m ≤ 1200) : RQ c e := by
  have h1 := PHI_cx hX hx h
  obtain ⟨r1, r2⟩ := hr
  unfold RQ
  rw [h1]
  omega
theorem RQ_mp (h : RMP c e) : RQ c e := by
  obtain ⟨⟨h1, h2⟩, h3⟩ := h
  exact ⟨by omega, by omega⟩
/-- the hold on the last value over other changes -/
theorem WKD_x (h : WKD A c s V) (hX : FIX c) (hx : CX ys rs c e) (np : NPY ys rs) (h11 : ∀ y, (11, y) ∉ ys) (hw : (fI e 183 1 = fI c 183 1 ∧ fI e 183 3 = fI c 183 3) ∧ aR e 184 = aR c 184 ∧ aI e 185 = aI c 185) (hE : EXT A A' (s.1 8)) (h5 : s'.1 56 = s.1 56 ∧ s'.1 60 = s.1 60 ∧ s'.1 61 = s.1 61) (h9 : ∀ b : Nat, (b : Int) < s.1 8 → s'.2 9 b = s.2 9 b) (h8 : s.1 8 ≤ s'.1 8) : WKD A' e s' V := by
  obtain ⟨p, q, hp, ⟨h1, h2⟩, ⟨h3, h4⟩, h6⟩ := h
  have h353 := hX.2.2.1
  have hk : ky 176 (kl c 176) = 11 := by rw [hX.wk.1]; rfl
  have e6 : fR e 176 6 = fR c 176 6 := hx.r (by omega) (by rw [hk]; exact h11 6)
  have e3 : fI e 176 3 = fI c 176 3 := hx.i (by omega) (by rw [hk]; exact h11 3)
  have e4 : fI e 176 4 = fI c 176 4 := hx.i (by omega) (by rw [hk]; exact h11 4)
  have e5 : fI e 176 5 = fI c 176 5 := hx.i (by omega) (by rw [hk]; exact h11 5)
  have hv : hasV s' ↔ hasV s := by unfold hasV; rw [h5.2.2]
  have hp' : p = 177 ∨ p = 180 := by have := hp.1; omega
  refine ⟨p, q, PLP_cx hX hx np ⟨h11 0, h11 1⟩ hp, ⟨fun z => ?_, fun z => by rw [e6]; exact h2 (fun w => z (hv.mpr w))⟩, ⟨by rw [e3, h5.1]; exact h3, by rw [e5, h5.2.1]; exact h4⟩, by rw [e4, h5.2.2]; exact h6⟩
  obtain ⟨g1, g2, g3⟩ := h1 (hv.mp z)
  have g4 := HLD.kp hX hx np hp' g2
  rw [e6, wrt_cg g2.2.1 h9]
  refine ⟨g1, ⟨g4.1, ⟨g4.2.1.1, VB_up h8 _ V (Nat.lt_succ_self _) g4.2.1.2⟩, DV_EXT hE _ V _ [] (Nat.lt_succ_self _) g4.2.1.2 g4.2.2⟩, ?_⟩
  obtain ⟨⟨o1, o2⟩, ⟨o3, o4⟩, o5⟩ := g3
  refine ⟨⟨by rw [hw.1.2]; exact o1, fun k x hk => by show aI e 185 k = x; rw [hw.2.2]; exact o2 k x hk⟩, ⟨by rw [hw.1.1]; exact o3, o4⟩, fun k X hX' => ?_⟩
  obtain ⟨b, E, e1, e2, e4, e5⟩ := wrt_hb g2.2.1 X (List.mem_of_getElem? hX')
  obtain ⟨d1, d2⟩ := o5 k X hX'
  refine ⟨?_, d2⟩
  show DV A' e (YNG e p) X (aR e 184 k) []
  rw [hw.2.1]
  exact DV_EXT hE _ X _ [] (Nat.lt_succ_self _) (by rw [e1]; exact ⟨e5, e2, e4⟩) (DV_up (sty_cx hX hx np hp') _ X _ [] (Nat.lt_succ_self _) d1)
theorem w183 (hX : FIX c) (hx : CX ys rs c e) (h12 : (12, 1) ∉ ys ∧ (12, 3) ∉ ys) (hr : 184 ∉ rs ∧ 185 ∉ rs) : (fI e 183 1 = fI c 183 1 ∧ fI e 183 3 = fI c 183 3) ∧ aR e 184 = aR c 184 ∧ aI e 185 = aI c 185 := by
  have h353 := hX.2.2.1
  have hk : ky 183 (kl c 183) = 12 := by rw [hX.wt.2.2.2.2.2.2.2.1]; rfl
  exact ⟨⟨hx.i (by omega) (by rw [hk]; exact h12.1), hx.i (by omega) (by rw [hk]; exact h12.2)⟩, hx.ar (by omega) (by unfold rk; rw [if_pos (by omega)]; exact hr.1), hx.ai (by omega) (by unfold rk; rw [if_pos (by omega)]; exact hr.2)⟩
theorem SBX_x (hx : SX ey ef s w) (hy : 0 ∉ ey ∧ 71 ∉ ey) (hf : 1 ∉ ef ∧ 72 ∉ ef) : SBX s w := ⟨⟨hx.1 71 (by decide) hy.2, fun i _ _ => by rw [hx.row (f := 72) (by decide) hf.2 (by decide)]⟩, hx.1 0 (by decide) hy.1, fun f _ _ => by rw [hx.row (f := 1) (by decide) hf.1 (by decide)]⟩
theorem NPY_0 : NPY [] [] := ⟨fun y => ⟨by simp, by simp⟩, ⟨by simp, by simp⟩, by simp, by simp, by simp, by simp⟩
theorem mm (h : MS n s t K Sh V W) : ∀ x, x ∈ fl t → 0 ≤ x ∧ x < s.1 8 := fun x hx => by have := h.1.1.1.lt hx; omega
/-- the reference changed for one call alone -/
theorem DK_sx (hM : MS n s t K Sh V W) (hM' : MS n w t K Sh V W) (hD : DKc A c s t K Sh ∧ WKD A c s V ∧ DLK A c s t W) (hx : SX [] [] s w) : DKc A c w t K Sh ∧ WKD A c w V ∧ DLK A c w t W := by
  obtain ⟨⟨d1, ⟨d2, d3, d4⟩, d5, d6⟩, d7, d8⟩ := hD
  have hT := hM.1.1
  have sb := SBX_x hx (by decide) (by decide)
  have hB := hT.1.2.2.2.2.1
  refine ⟨⟨R1_sx d1 hT.1 hM'.1.1.1 hT.2.1 hM.1.2.1 hx (by decide) (by decide), ⟨d2.sb sb, d3.sb sb, d4⟩, d5, d6⟩, WKD_x (ys := []) (rs := []) d7 d1.1.1 CX.rf NPY_0 (fun y => by simp) ⟨⟨rfl, rfl⟩, rfl, rfl⟩ EXT.rf ⟨hx.1 56 (by decide) (by decide), hx.1 60 (by decide) (by decide), hx.1 61 (by decide) (by decide)⟩ (fun b hb => hx.nod (Or.inl rfl) (by decide) (by omega)) (by rw [hx.1 8 (by decide) (by decide)]; exact Int.le_refl _), DLK_x (ys := []) (rs := []) d8 d1.1.1 d1.1.2.1 CX.rf RMk.rf ⟨fun k => by simp, fun k => by simp, by simp⟩ (mm hM) (hx.1 8 (by decide) (by decide)) (hx.1 35 (by decide) (by decide)) (fun b _ _ => by rw [hx.row (f := 42) (by decide) (by decide) (by decide)])⟩
theorem PAIR_sx (h : PAIR n s c) (hx : SX [] [] s w) : PAIR n w c := by
  obtain ⟨A, t, K, Sh, V, W, hM, hD⟩ := h
  have hM' := MS_x hM hx (by decide) (by decide)
  exact ⟨A, t, K, Sh, V, W, hM', DK_sx hM hM' hD hx⟩
theorem PAIR_up {n' : Int} (h : PAIR n s c) (hn : n ≤ n') : PAIR n' s c := by
  obtain ⟨A, t, K, Sh, V, W, hM, hD⟩ := h
  exact ⟨A, t, K, Sh, V, W, MS_up hM hn, hD⟩
end
end
section
/-! Acts, for the pair: what each of them leaves. -/
def ACE (s s1 : SM) : Prop := eqx [8, 15, 16] [9, 10, 11, 12, 13, 14] s s1 ∧ s.1 8 ≤ s1.1 8 ∧ (∀ y, y < s.1 8 → s1.2 9 y = s.2 9 y) ∧ NV s1
section
variable {iv : List (Int × Int)} {L : Nat} {h0 : MH} {A A' : Int → Nat} {c e : SC} {s s1 w v : SM} {t t' : Term} {n : Int} {K K' : List Snap} {Sh : Int → Option Snap} {V : Term} {W : List (Int × Int)} {ey ef : List Nat} {ys : List (Nat × Nat)} {rs : List Nat} {d p q : Nat} {b i so z k : Int}
theorem NV_q {ys : List Nat} (h : NV s) (hx : eqx ys [12, 13, 14] s w) (h8 : w.1 8 = s.1 8) : NV w := NV_ag h h8 (fun y _ _ => by rw [hx.2 9 (by decide), hx.2 10 (by decide), hx.2 11 (by decide)]; exact ⟨rfl, rfl, rfl⟩)
theorem NV_born (h : NV s) : NV (bornU s so z k) := NV_new (so := so) (v := z) (k := k) h rfl bornU_at (fun y _ y1 => (bornU_o y y1).1)
theorem NV_hl (h : NV s) : NV (hlU b i s) := NV_q (ys := []) (NV_born (so := 0) (z := -9) (k := -9) h) (partU_e (s := bornU s 0 (-9) (-9)) (b := b) (i := i) (c := s.1 8)) rfl
theorem NV_hls : ∀ (m : Nat) (i : Int) (s : SM), NV s → NV (hlsU b m i s) := by
  intro m
  induction m with
  | zero => intro i s h; exact h
  | succ m ih => intro i s h; exact ih (i + 1) (hlU b i s) (NV_hl h)
theorem NV_repl {o : Int} (h : NV s) : NV (replU s o b) := NV_q h replU_e (replU_e.1 8 (by decide))
theorem NV_us {y : Nat} (h : NV s) (hy : y ≠ 8) : NV (us s y z) := NV_ag h (if_neg (fun q => hy q.symm)) (fun _ _ _ => ⟨rfl, rfl, rfl⟩)
theorem take_ac (h : NV s) : ACE s (tkU s) := by
  have e1 := bornU_e (s := s) (so := 0) (v := -9) (k := -9)
  have e2 := replU_e (s := bornU s 0 (-9) (-9)) (o := s.1 16) (c := s.1 8)
  refine ⟨eqx_us ((e1.up (by decide) (by decide)).tr (e2.up (by decide) (by decide))) (by decide), ?_, fun y hy => ?_, NV_us (NV_repl (NV_born h)) (by decide)⟩
  · show s.1 8 ≤ (replU (bornU s 0 (-9) (-9)) (s.1 16) (s.1 8)).1 8
    rw [e2.1 8 (by decide)]
    show s.1 8 ≤ s.1 8 + 1
    omega
  · show (replU (bornU s 0 (-9) (-9)) (s.1 16) (s.1 8)).2 9 y = s.2 9 y
    rw [e2.2 9 (by decide)]
    exact (bornU_o y hy).1.1
theorem put_ac {vv : Int} (h : NV s) : ACE s (putU s so vv k) := by
  have e1 := bornU_e (s := s) (so := so) (v := vv) (k := k)
  have e2 := replU_e (s := bornU s so vv k) (o := s.1 16) (c := s.1 8)
  have b9 : ∀ y, y < s.1 8 → (replU (bornU s so vv k) (s.1 16) (s.1 8)).2 9 y = s.2 9 y := fun y hy => by
    rw [e2.2 9 (by decide)]
    exact (bornU_o y hy).1.1
  have e12 : eqx [8, 15, 16] [9, 10, 11, 12, 13, 14] s (replU (bornU s so vv k) (s.1 16) (s.1 8)) := (e1.up (by decide) (by decide)).tr (e2.up (by decide) (by decide))
  have b8 : (replU (bornU s so vv k) (s.1 16) (s.1 8)).1 8 = s.1 8 + 1 := e2.1 8 (by decide)
  have hn : NV (replU (bornU s so vv k) (s.1 16) (s.1 8)) := NV_repl (NV_born h)
  unfold putU
  by_cases e : s.2 9 (s.1 16) = 0
  · rw [if_pos e]
    have e3 := hlsU_e (s.1 8) (pO so).toNat 0 (replU (bornU s so vv k) (s.1 16) (s.1 8))
    refine ⟨eqx_us (e12.tr (e3.1.up (by decide) (by decide))) (by decide), ?_, fun y hy => ?_, NV_us (NV_hls _ _ _ hn) (by decide)⟩
    · show s.1 8 ≤ (hlsU (s.1 8) (pO so).toNat 0 (replU (bornU s so vv k) (s.1 16) (s.1 8))).1 8
      rw [e3.2.1, b8]
      omega
    · show (hlsU (s.1 8) (pO so).toNat 0 (replU (bornU s so vv k) (s.1 16) (s.1 8))).2 9 y = s.2 9 y
      rw [e3.2.2 y (by omega)]
      exact b9 y hy
  · rw [if_neg e]
    have e4 := partU_e (s := replU (bornU s so vv k) (s.1 16) (s.1 8)) (b := s.1 8) (i := 0) (c := s.1 16)
    have e3 := hlsU_e (s.1 8) (pO so - 1).toNat 1 (partU (replU (bornU s so vv k) (s.1 16) (s.1 8)) (s.1 8) 0 (s.1 16))
    have c8 : (partU (replU (bornU s so vv k) (s.1 16) (s.1 8)) (s.1 8) 0 (s.1 16)).1 8 = s.1 8 + 1 := (e4.1 8 (by decide)).trans b8
    refine ⟨eqx_us ((e12.tr (e4.up (by decide) (by decide))).tr (e3.1.up (by decide) (by decide))) (by decide), ?_, fun y hy => ?_, NV_us (NV_hls _ _ _ (NV_q (ys := []) hn e4 (e4.1 8 (by decide)))) (by decide)⟩
    · show s.1 8 ≤ (hlsU (s.1 8) (pO so - 1).toNat 1 (partU (replU (bornU s so vv k) (s.1 16) (s.1 8)) (s.1 8) 0 (s.1 16))).1 8
      rw [e3.2.1, c8]
      omega
    · show (hlsU (s.1 8) (pO so - 1).toNat 1 (partU (replU (bornU s so vv k) (s.1 16) (s.1 8)) (s.1 8) 0 (s.1 16))).2 9 y = s.2 9 y
      rw [e3.2.2 y (by omega), e4.2 9 (by decide)]
      exact b9 y hy
theorem unwrap_ac (h : NV s) : ACE s (uwU s i) := by
  have e2 := replU_e (s := s) (o := s.1 16) (c := s.2 14 (3 * s.1 16 + i))
  refine ⟨eqx_us (e2.up (by decide) (by decide)) (by decide), ?_, fun y hy => ?_, NV_us (NV_repl h) (by decide)⟩
  · show s.1 8 ≤ (replU s (s.1 16) (s.2 14 (3 * s.1 16 + i))).1 8
    rw [e2.1 8 (by decide)]
    exact Int.le_refl _
  · show (replU s (s.1 16) (s.2 14 (3 * s.1 16 + i))).2 9 y = s.2 9 y
    rw [e2.2 9 (by decide)]
theorem write_ac (h : NV s) (hc : 0 ≤ s.1 16 ∧ s.1 16 < s.1 8) (hg : wriOk s z) : ACE s (ua s 10 (s.1 16) z) :=
  ⟨eqx_ua eqx.rf (by decide), Int.le_refl _, fun y _ => by show (if (9 : Nat) = 10 ∧ y = s.1 16 then z else s.2 9 y) = s.2 9 y; rw [if_neg (fun q => absurd q.1 (by decide))], NV_write h hc hg⟩
theorem move_ac (h : NV s) : ACE s (mvU s b) := by
  have e1 := bornU_e (s := s) (so := 0) (v := -9) (k := -9)
  have e2 := replU_e (s := bornU s 0 (-9) (-9)) (o := s.1 16) (c := s.1 8)
  have e3 := replU_e (s := replU (bornU s 0 (-9) (-9)) (s.1 16) (s.1 8)) (o := b) (c := s.1 16)
  refine ⟨((e1.up (by decide) (by decide)).tr (e2.up (by decide) (by decide))).tr (e3.up (by decide) (by decide)), ?_, fun y hy => ?_, NV_repl (NV_repl (NV_born h))⟩
  · show s.1 8 ≤ (replU (replU (bornU s 0 (-9) (-9)) (s.1 16) (s.1 8)) b (s.1 16)).1 8
    rw [e3.1 8 (by decide), e2.1 8 (by decide)]
    show s.1 8 ≤ s.1 8 + 1
    omega
  · show (replU (replU (bornU s 0 (-9) (-9)) (s.1 16) (s.1 8)) b (s.1 16)).2 9 y = s.2 9 y
    rw [e3.2 9 (by decide), e2.2 9 (by decide)]
    exact (bornU_o y hy).1.1
theorem rename_ac (h : NV s) (hT : AFT s t) (hg : renOk s t z) : ACE s (rnU s t z) := by
  have e9 : ∀ f, f ≠ 10 → (rnU s t z).2 f = s.2 f := fun f hf => rnU_o hf
  refine ⟨⟨fun y _ => rfl, fun f hf => e9 f (fun q => hf (by rw [q]; decide))⟩, Int.le_refl _, fun y _ => by rw [e9 9 (by decide)], fun x x0 x1 => ?_⟩
  have h1 := h x x0 x1
  rw [e9 9 (by decide), e9 11 (by decide)]
  refine ⟨?_, h1.2⟩
  show nvl (s.2 9 x) (if (10 : Nat) = 10 ∧ (x = s.1 16 ∨ (x ∈ fl t ∧ isB s x = true)) then z else s.2 10 x) = (if (10 : Nat) = 10 ∧ (x = s.1 16 ∨ (x ∈ fl t ∧ isB s x = true)) then z else s.2 10 x)
  by_cases q : x = s.1 16 ∨ (x ∈ fl t ∧ isB s x = true)
  · rw [if_pos ⟨rfl, q⟩]
    have hs : s.2 9 x = 3 ∨ s.2 9 x = 8 ∨ s.2 9 x = 10 := by
      rcases q with q | ⟨-, q⟩
      · rw [q]; exact Or.inr hg.2.1
      · unfold isB at q
        simp only [Bool.and_eq_true, decide_eq_true_eq] at q
        exact Or.inl q.1
    unfold nvl
    rw [if_pos (by omega)]
  · rw [if_neg (fun w => q w.2)]
    exact h1.1
/-- where the nodes of the new sheet come from -/
theorem take_in (h : AFT s t) {x : Int} (hx : x ∈ fl (tkT s t)) : x ∈ fl t ∨ s.1 8 ≤ x := by
  have hB := h.1.2.2.2.2.1
  rcases mem_rpT0 hx with q | q
  · exact Or.inl q
  · have := List.mem_singleton.mp q
    right; omega
theorem unwrap_in (h : AFT s t) (hi : uwOk s i) {x : Int} (hx : x ∈ fl (uwT s t i)) : x ∈ fl t ∨ s.1 8 ≤ x := by
  have hS := h.1
  obtain ⟨b1, b2, b3, b4, b5, b6, b7⟩ := sq_ok hS.1 hS.2.1 hS.2.2.1 h.2.2
  rcases mem_rpT hS h.2.2 hx with q | q
  · exact Or.inl q
  · exact Or.inl (b4 x ((prt_ok (sq (s.1 16) t) b1 b5 hi.1 (by have := b2; unfold full at this; rw [this, b3]; exact hi.2)).2.2.2.1 x q))
theorem put_in {vv : Int} (h : AFT s t) (hg : putOk s t so vv k) {x : Int} (hx : x ∈ fl (putT s t so)) : x ∈ fl t ∨ s.1 8 ≤ x := by
  rcases put_mem h.1 h.2.2 hg hx with q | q | q
  · exact Or.inl q
  · right; omega
  · right; omega
theorem move_in (h : AFT s t) {x : Int} (hx : x ∈ fl (mvT s t b)) : x ∈ fl t ∨ s.1 8 ≤ x := by
  have hS := h.1
  have hB := hS.2.2.2.2.1
  rcases mem_rpT0 hx with q | q
  · rcases mem_rpT0 q with q | q
    · exact Or.inl q
    · have := List.mem_singleton.mp q
      right; omega
  · exact Or.inl ((sq_ok hS.1 hS.2.1 hS.2.2.1 h.2.2).2.2.2.1 x q)
theorem NVK_act (h : NVK s K) (hN : NV s) (hS : SHT s t) (hK : KL s K) (h9 : ∀ x, x < s.1 8 → v.2 9 x = s.2 9 x) : NVK v (push K (t, s)) := fun u hu x hx' => by
  have hq := NVK_push h hN hS u hu x hx'
  have hub : x < s.1 8 := by
    unfold push at hu
    rcases List.mem_append.mp hu with q | q
    · have hq : u ∈ K := by
        split at q
        · exact List.mem_of_mem_tail q
        · exact q
      obtain ⟨i, hi, rfl⟩ := List.mem_iff_getElem.mp hq
      exact (AT_mem K[i].1 (hK.2.2 i K[i] (List.getElem?_eq_getElem hi)).2.1.1 x hx').1.2
    · rw [List.mem_singleton.mp q] at hx'
      exact (hS.lt hx').2.1
  rw [h9 x hub]
  exact hq
theorem acR_w : NPY acY acR ∧ 184 ∉ acR ∧ 185 ∉ acR := ⟨⟨fun y => ⟨by unfold acY; simp, by unfold acY; simp⟩, ⟨by decide, by decide⟩, by decide, by decide, by decide, by decide⟩, by decide, by decide⟩
/-- an act, on both sides -/
theorem act_pair (hM : MS n s t K Sh V W) (hD : DKc A c s t K Sh ∧ WKD A c s V ∧ DLK A c s t W) (hdone : DONE s t K 0 s1 v) (hA : AFT s1 t') (hc : ACE s s1) (hin : ∀ x, x ∈ fl t' → x ∈ fl t ∨ s.1 8 ≤ x) (ha : ACT A c s t K e s1 t') : PAIR n v e ∧ RQ c e := by
  obtain ⟨⟨a1, a2, a3, a4⟩, ⟨b1, b2⟩, ⟨c1, c2⟩, -⟩ := id hM
  obtain ⟨hd, hkl⟩ := hdone
  obtain ⟨x1, x2, x3, x4⟩ := hc
  obtain ⟨d1, d2, d3⟩ := hD
  have hB1 := hA.1.2.2.2.2.1
  have xs : SX [8, 15, 16] [9, 10, 11, 12, 13, 14] s s1 := SX.eq x1 (fun y h => Or.inr h) (fun y h => Or.inr h)
  have xv : SX [24, 35] [25, 26, 27, 28, 29] s1 v := (SX.eq (s := s1) (eqx_us eqx.rf (ys := [35]) (fs := []) (y := 35) (z := chg (s.1 35) 0) (by decide)) (by decide) (by decide)).tr (hd.up (by decide) (by decide))
  have xsv : SX [8, 15, 16, 24, 35] [9, 10, 11, 12, 13, 14, 25, 26, 27, 28, 29] s v := (xs.up (by decide) (by decide)).tr (xv.up (by decide) (by decide))
  have e8 : v.1 8 = s1.1 8 := xv.1 8 (by decide) (by decide)
  have e35 : v.1 35 ≠ 0 := by
    rw [hd.1 35 (by decide) (by decide)]
    show chg (s.1 35) 0 ≠ 0
    unfold chg
    split <;> simp
  have h9 : ∀ x, x < s.1 8 → v.2 9 x = s.2 9 x := fun x hx => by
    rw [xv.nod (f := 9) (Or.inl rfl) (by decide) (by omega)]
    exact x3 x hx
  have hAv : AFT v t' := hA.x xv (by decide) (by decide)
  have hM' : MS n v t' (push K (t, s)) Sh V W := MS_act hM xsv (by omega) hAv ⟨x4.x xv hB1.2 (by decide) (by decide), NVK_act a4 a3 a1.1 c1 h9⟩ hkl e35
  obtain ⟨A', g1, g2, g3, g4, g5, g6⟩ := DKc.act d1 b1 (SBX_x xs (by decide) (by decide)) ha
  have sb := SBX_x xv (by decide) (by decide)
  have hX := d1.1.1.1
  have hKIs1 : KIs s1 := KIs_x a2 xs (by decide) (by decide)
  have r1 : R1 A' e v t' := R1_sx g1.1 hA.1 hAv.1 hA.2.1 hKIs1 xv (by decide) (by decide)
  have hDK : DKc A' e v t' (push K (t, s)) Sh := ⟨r1, ⟨g1.2.1.1.sb sb, g1.2.1.2.1.sb sb, g1.2.1.2.2⟩, g1.2.2⟩
  refine ⟨⟨A', t', push K (t, s), Sh, V, W, hM', hDK, WKD_x d2 hX g5 acR_w.1 (fun y => by unfold acY; simp) (w183 hX g5 (by decide) acR_w.2) g2 ⟨xsv.1 56 (by decide) (by decide), xsv.1 60 (by decide) (by decide), xsv.1 61 (by decide) (by decide)⟩ (fun b hb => h9 b hb) (by omega), DLK_act d3 d1.1.1.2.1 r1.1.2.1 g2 g5 g6 ⟨by have := a1.1.2.2.2.2.1; omega, by omega⟩ g4 e35 (mm hM) (fun x hx => ⟨by have := hAv.1.lt hx; omega, hin x hx⟩)⟩, RQ_cx hX g5 acR_w.1 g3 (by decide) (by decide)⟩
end
end
