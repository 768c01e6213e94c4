/-! count() and small looks by the desk. -/
section
variable {iv : List (Int × Int)} {L : Nat} {h0 : MH} {A A' : Int → Nat} {c e : SC} {s s' w : SM} {t : Term} {d : Nat} {K : List Snap} {Sh : Int → Option Snap}
theorem FIX.sh (h : FIX c) : kl c 64 = 1 ∧ (fR c 64 6 = 193 ∧ kl c 193 = 105 ∧ le c 193 = 6) ∧ (fR c 64 3 = 176 ∧ kl c 176 = 11) ∧ (fR c 64 4 = 183 ∧ kl c 183 = 12) ∧ fR c 64 5 = 188 ∧ kl c 188 = 12 := by
  simp only [h.1]
  exact ⟨trivial, ⟨trivial, trivial, trivial⟩, ⟨trivial, trivial⟩, ⟨trivial, trivial⟩, trivial, trivial⟩
theorem shelfSum_c {F : Int → SC → Prop} (hX : FIX c) (hs : ∀ p : Nat, p < 6 → fI c (199 + 6 * p) 5 = s.2 37 p ∧ 0 ≤ s.2 37 p ∧ s.2 37 p ≤ 60) (hF : F (s.2 37 0 + s.2 37 1 + s.2 37 2 + s.2 37 3 + s.2 37 4 + s.2 37 5) c) : ck iv L h0 d 50 [vr 64] c (qi F) := by
  obtain ⟨k1, ⟨k2, k3, k4⟩, -⟩ := hX.sh
  have step : ∀ (p : Nat) (z : Int), p < 6 → 0 ≤ z → z ≤ 60 * p → wk iv L h0 d 50 4 [lr 64, li (z + s.2 37 p), li (p + 1)] [] c (qi F) → wk iv L h0 d 50 4 [lr 64, li z, li p] [] c (qi F) := fun p z hp z0 z1 h => by
    obtain ⟨a1, a2, -⟩ := hX.2.1.2 p hp
    obtain ⟨b1, b2, b3⟩ := hs p hp
    refine C50_4 ⟨fun w => by omega, fun _ => ?_⟩
    rw [k2, k3, k4, a1, a2, b1]
    exact ⟨k1, rfl, by omega, rfl, by omega, by omega, h⟩
  have b : ∀ p : Nat, p < 6 → 0 ≤ s.2 37 p ∧ s.2 37 p ≤ 60 := fun p hp => (hs p hp).2
  have b0 := b 0 (by decide)
  have b1 := b 1 (by decide)
  have b2 := b 2 (by decide)
  have b3 := b 3 (by decide)
  have b4 := b 4 (by decide)
  have b5 := b 5 (by decide)
  push_cast at b0 b1 b2 b3 b4 b5
  refine C50 (step 0 0 (by decide) (by decide) (by decide) (step 1 _ (by decide) (by push_cast; omega) (by push_cast; omega) (step 2 _ (by decide) (by push_cast; omega) (by push_cast; omega) (step 3 _ (by decide) (by push_cast; omega) (by push_cast; omega) (step 4 _ (by decide) (by push_cast; omega) (by push_cast; omega) (step 5 _ (by decide) (by push_cast; omega) (by push_cast; omega) (C50_4 ⟨fun _ => ?_, fun w => absurd w (by decide)⟩)))))))
  push_cast
  rw [show (0 : Int) + s.2 37 0 + s.2 37 1 + s.2 37 2 + s.2 37 3 + s.2 37 4 + s.2 37 5 = s.2 37 0 + s.2 37 1 + s.2 37 2 + s.2 37 3 + s.2 37 4 + s.2 37 5 by omega]
  exact hF
theorem count_c {k : Int} {F : Int → SC → Prop} (h1 : R1 A c s t) (hS : SHT s t) (hk : fI c 70 7 = s.1 24) (hs : ∀ p : Nat, p < 6 → fI c (199 + 6 * p) 5 = s.2 37 p ∧ 0 ≤ s.2 37 p ∧ s.2 37 p ≤ 60) (hw : (if fI c 176 4 = -1 then -9 else fI c 176 4) = s.1 61) (hF : F (cntA s t k) c) : ck iv L h0 (d + 1) 36 [vr 64, vi k] c (qi F) := by
  have hX := h1.1.1
  obtain ⟨d1, d2, d3, d4, d5⟩ := hX.dk
  obtain ⟨k1, -, ⟨k5, k6⟩, -⟩ := hX.sh
  unfold cntA at hF
  refine C36 ?_
  rw [d4, d3, k5, k6, h1.2.2.1.1, h1.2.1.2, hk]
  refine ⟨fun q => ⟨d1, d5, ?_⟩, fun q => ⟨d1, d2, ?_⟩, fun q => ⟨d1, d2, ?_⟩, fun q => ⟨d1, many_c h1 hS ?_⟩, fun q => ⟨d1, many_c h1 hS ?_⟩, fun q => ⟨d1, shelfSum_c hX hs ?_⟩, fun q => ⟨d1, rfl, fun w => ?_, fun w => ?_⟩, fun q => ?_⟩
  · rw [if_pos q] at hF; exact hF
  · rw [if_neg (by omega), if_pos q] at hF; exact hF
  · rw [if_neg (by omega), if_neg (by omega), if_pos q] at hF; exact hF
  · rw [if_neg (by omega), if_neg (by omega), if_neg (by omega), if_pos q] at hF; exact hF
  · rw [if_neg (by omega), if_neg (by omega), if_neg (by omega), if_neg (by omega), if_pos q] at hF; exact hF
  · rw [if_neg (by omega), if_neg (by omega), if_neg (by omega), if_neg (by omega), if_neg (by omega), if_pos q] at hF; exact hF
  · rw [if_neg (by omega), if_neg (by omega), if_neg (by omega), if_neg (by omega), if_neg (by omega), if_neg (by omega), if_pos q, ← hw, if_neg w] at hF; exact hF
  · rw [if_neg (by omega), if_neg (by omega), if_neg (by omega), if_neg (by omega), if_neg (by omega), if_neg (by omega), if_pos q, ← hw, if_pos w] at hF; exact hF
  · rw [if_neg (by omega), if_neg (by omega), if_neg (by omega), if_neg (by omega), if_neg (by omega), if_neg (by omega), if_neg (by omega)] at hF; exact hF
theorem nodes_c {F : Int → SC → Prop} (h1 : R1 A c s t) (hF : F (fl t).length c) : ck iv L h0 d 5 [vr 64] c (qi F) := by
  obtain ⟨d1, d2, d3, d4⟩ := h1.nil
  exact C5 (by rw [d2, d4]; exact ⟨d1, d3, hF⟩)
theorem cursor_c {F : Int → SC → Prop} (h1 : R1 A c s t) (hT : AFT s t) (hF : F (s.1 16) c) : ck iv L h0 d 6 [vr 64] c (qi F) := by
  obtain ⟨⟨d1, d2, d3, d4, d5⟩, e1, e2, e3, e4, e5, e6⟩ := h1.cur hT
  have hcb := hT.1.m _ hT.2.2
  obtain ⟨⟨n1, n2, n3, n4, -⟩, -⟩ := h1.1.2.1.2 _ hcb.1 hcb.2
  refine C6 ?_
  rw [d3, e1, n4]
  exact ⟨d1, d2, n1, hF⟩
theorem finding_c {F : Int → SC → Prop} (hX : FIX c) (hn : FNc c s) (hF : F (s.1 0) c) : ck iv L h0 d 37 [vr 64] c (qi F) := C37 ⟨hX.dk.1, by rw [hn.1]; exact hF⟩
theorem findings_c {f : Int} {F : Int → SC → Prop} (hX : FIX c) (hn : FNc c s) (hF : F (if 1 ≤ f ∧ f ≤ 5 then s.2 1 f else -1) c) : ck iv L h0 d 38 [vr 64, vi f] c (qi F) := by
  obtain ⟨k1, k2, k3, k4, k5, k6, k7⟩ := hX.bx
  refine C38 ⟨fun q => ?_, fun q => ⟨fun q2 => ?_, fun q2 => ?_⟩⟩
  · rw [if_neg (by omega)] at hF; exact hF
  · rw [if_pos ⟨q, q2⟩, ← hn.2 f (by omega) (by omega)] at hF
    rw [k5, k6, k7]
    exact ⟨k1, rfl, by omega, hF⟩
  · rw [if_neg (by omega)] at hF; exact hF
theorem asked_c {F : Int → SC → Prop} (hX : FIX c) (hF : F (fI c 64 13) c) : ck iv L h0 d 35 [vr 64] c (qi F) := C35 ⟨hX.dk.1, hF⟩
end
