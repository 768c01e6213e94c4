/-! What links the desk and the reference between calls, first part; acts: the frame. -/
def R1 (A : Int → Nat) (c : SC) (s : SM) (t : Term) : Prop := (FIX c ∧ ND A c s ∧ HG A c s t ∧ LST A c t) ∧ (fR c 70 2 = A (s.1 16) ∧ fI c 70 4 = s.1 8) ∧ KIc c s ∧ JUc A c s t
/-- what acts may write -/
def acY : List (Nat × Nat) := [(5, 7), (8, 3), (5, 8), (5, 9), (5, 10), (25, 8), (25, 9), (25, 10), (4, 5), (5, 4), (5, 5), (5, 6), (8, 1), (8, 2), (8, 4), (8, 6), (8, 7), (9, 4), (9, 5), (1, 15)]
def acR : List Nat := 1103 :: 71 :: 66 :: 67 :: 68 :: 69 :: snR
def tyY : List (Nat × Nat) := (1, 15) :: (8, 2) :: sys
section
variable {iv : List (Int × Int)} {L : Nat} {h0 : MH} {A A' : Int → Nat} {c e : SC} {s : SM} {t : Term} {d : Nat} {P : Int → Prop} {Q : Int → Int → Prop}
theorem FIX.dk (h : FIX c) : kl c 64 = 1 ∧ kl c 70 = 8 ∧ fR c 64 1 = 70 ∧ fR c 64 0 = 65 ∧ kl c 65 = 4 := by
  simp only [h.1]
  exact ⟨trivial, trivial, trivial, trivial, trivial⟩
theorem op_of (h : R1 A c s t) (hT : SHT s t) : OP A c s (fun x => x ∈ fl t) (fun b i => b ∈ fl t ∧ 0 ≤ i ∧ i < pO (s.2 9 b)) := by
  obtain ⟨⟨hX, hN, hH, hL⟩, ⟨hc, h8⟩, hI, hJ⟩ := h
  refine ⟨⟨hX, hN, ⟨fun b hb => ⟨hT.m b hb, ?_⟩, fun b i hb => ⟨hT.m b hb.1, hb.2, ?_⟩⟩⟩, ⟨fun b hb => ⟨(hH.1 b hb).1, fun q => (hH.1 b hb).2.1 (fun e => q (by rw [e]; exact hT.2.2.2.2.2.2.1))⟩, fun b i hb => (hH.1 b hb.1).2.2 i hb.2.1 hb.2.2⟩, ⟨by rw [hH.2, hT.2.2.2.2.2.1], h8, ?_, ?_⟩, hI, hT.2.2.2.2.1⟩
  · by_cases e : b = hd t
    · left; rw [e]; exact hT.2.2.2.2.2.2.1
    · right; exact hT.m _ (hT.up9 hb e)
  · exact hT.m _ ((AT_mem t hT.1 b hb.1).2.2.1 i hb.2.1 hb.2.2 (fun e => by have := hT.2.1; unfold full at this; rw [e] at hb; omega)).1
  · rw [← hT.2.2.2.2.2.1]; exact (hT.m _ (hd_mem t hT.1)).1
  · rw [← hT.2.2.2.2.2.1]; exact (hT.m _ (hd_mem t hT.1)).2
theorem op_HG (h : OP A c s P Q) (hT : SHT s t) (hP : ∀ x, x ∈ fl t → P x) (hQ : ∀ x i, x ∈ fl t → 0 ≤ i → i < pO (s.2 9 x) → Q x i) : HG A c s t := by
  obtain ⟨-, ⟨hL, hPT⟩, ⟨ht, -⟩, -⟩ := h
  refine ⟨fun x hx => ⟨(hL x (hP x hx)).1, fun q => (hL x (hP x hx)).2 (fun w => ?_), fun i i0 i1 => hPT x i (hQ x i hx i0 i1)⟩, by rw [ht, hT.2.2.2.2.2.1]⟩
  have := (hT.m _ (hT.up9 hx q)).1
  omega
theorem op_cur {y : Int} (h : OP A c s P Q) : OP A (uR c 70 2 (A y)) (us s 16 y) P Q := by
  obtain ⟨⟨hX, hN, hI⟩, ⟨hL, hP⟩, ⟨ht, h8, ht0, ht8⟩, hKI, hB⟩ := h
  have hk := hX.dk
  have hx : CX [(8, 2)] [] c (uR c 70 2 (A y)) := CX.rf.uR (fun _ => by rw [hk.2.1]; decide)
  have n70 : ∀ b, (0 ≤ b ∧ b < s.1 8) → A b ≠ 70 := fun b hb q => by
    have := (hN.2 b hb.1 hb.2).1.1
    rw [q, hk.2.1] at this
    omega
  refine ⟨⟨hX.x hx (by decide) (by decide), hN.x hx (by decide) (by decide) (by decide) (by decide) (by decide), hI⟩, ⟨fun b hb => ?_, hP⟩, ⟨?_, h8, ht0, ht8⟩, hKI, hB⟩
  · rw [fR_uR, if_neg (fun q => absurd q.1 (by decide))]
    exact hL b hb
  · rw [fR_uR, if_neg (by omega)]
    exact ht
/-- behind an act: listed, judged -/
theorem changed0_ok {F : SC → Prop} (h : OP A c s P Q) (hc : fR c 70 2 = A (s.1 16)) (hT : AFT s t) (hK : KIs s) (hP : ∀ x, x ∈ fl t → P x) (hQ : ∀ x i, x ∈ fl t → 0 ≤ i → i < pO (s.2 9 x) → Q x i) (hD : 232 ≤ d) (hF : ∀ e, R1 A e s t → CX tyY srs c e → RMk 0 0 c e → fI e 64 15 = 1 → F e) : ck iv L h0 d 52 [vr 64] c (qv F) := by
  obtain ⟨d, rfl⟩ : ∃ k, d = k + 1 := ⟨d - 1, by omega⟩
  obtain ⟨hS, hB, hcm⟩ := hT
  have hH := op_HG h hS hP hQ
  obtain ⟨⟨hX, hN, hI⟩, hLP, ⟨ht, h8, ht0, ht8⟩, hKI, hB8⟩ := h
  have hk := hX.dk
  have h3 := hX.2.2.1
  refine C52 ⟨hk.1, ?_⟩
  have hx : CX tyY srs c (uI c 64 15 1) := CX.rf.uI (fun _ => by rw [hk.1]; decide)
  refine settle_ok (hX.x hx (by decide) (by decide)) (hN.x hx (by decide) (by decide) (by decide) (by decide) (by decide)) (hH.x hN hS.m hX hx (by decide) (by decide) (by decide) (by decide)) hS hB hK ?_ (by omega) (fun e hxe hre hL hI2 hJ => ?_)
  · refine ⟨?_, hKI.2⟩
    rw [fI_uI, if_neg (by omega)]
    exact hKI.1
  · have hxc := hx.tr (hxe.up (ys' := tyY) (rs' := srs) (by decide) (fun _ q => q))
    have hX1 : FIX (uI c 64 15 1) := hX.x hx (by decide) (by decide)
    have hk1 := hX1.dk
    refine hF e ⟨⟨hX.x hxc (by decide) (by decide), hN.x hxc (by decide) (by decide) (by decide) (by decide) (by decide), hH.x hN hS.m hX hxc (by decide) (by decide) (by decide) (by decide), hL⟩, ⟨?_, ?_⟩, hI2, hJ⟩ hxc hre ?_
    · rw [hxe.r (a := 70) (by show 70 < nxt c; omega) (by rw [hk1.2.1]; decide)]
      exact hc
    · rw [hxc.i (a := 70) (by omega) (by rw [hk.2.1]; decide)]
      exact h8
    · rw [hxe.i (a := 64) (by show 64 < nxt c; omega) (by rw [hk1.1]; decide), fI_uI, if_pos ⟨rfl, rfl⟩]
theorem changed_ok {y : Int} {F : SC → Prop} (h : OP A c s P Q) (hT : AFT (us s 16 y) t) (hK : KIs s) (hP : ∀ x, x ∈ fl t → P x) (hQ : ∀ x i, x ∈ fl t → 0 ≤ i → i < pO (s.2 9 x) → Q x i) (hD : 232 ≤ d) (hF : ∀ e, R1 A e (us s 16 y) t → CX tyY srs c e → RMk 0 0 c e → fI e 64 15 = 1 → F e) : ck iv L h0 d 52 [vr 64] (uR c 70 2 (A y)) (qv F) := by
  have hk := h.1.1.dk
  have hx : CX tyY srs c (uR c 70 2 (A y)) := CX.rf.uR (fun _ => by rw [hk.2.1]; decide)
  refine changed0_ok (op_cur h) ?_ hT hK hP hQ hD (fun e h1 h2 h3 h4 => hF e h1 (hx.tr h2) h3 h4)
  rw [fR_uR, if_pos ⟨rfl, rfl⟩]
  rfl
theorem lacks_c {n : Int} {F : Int → SC → Prop} (hX : FIX c) (h8 : fI c 70 4 = s.1 8) (hB : 0 ≤ s.1 8 ∧ s.1 8 ≤ 3000) (hn : 0 ≤ n ∧ n ≤ 100) (H1 : s.1 8 + n ≤ 3000 → F 0 c) (H2 : 3000 < s.1 8 + n → F 1 c) : ck iv L h0 d 205 [vr 70, vi n] c (qi F) := by
  refine C205 ⟨hX.dk.2.1, ?_⟩
  rw [h8]
  exact ⟨by omega, H1, H2⟩
/-- kept things stay -/
theorem KSc.x {ys : List (Nat × Nat)} {rs : List Nat} {K : List Snap} (h : KSc A c K) (hX : FIX c) (hE : EXT A A' (s.1 8)) (hB : 0 ≤ s.1 8) (hK : ∀ u, u ∈ K → KP s u) (hx : CX ys rs c e) (hy : (8, 6) ∉ ys ∧ (8, 7) ∉ ys ∧ (9, 4) ∉ ys ∧ (9, 5) ∉ ys) (hr : ∀ a, a ∈ snR → a ∉ rs) : KSc A' e K := by
  obtain ⟨⟨k1, k2, k3, k4⟩, k5⟩ := h
  have h3 := hX.2.2.1
  have hk := hX.dk
  have e6 : fI e 70 6 = fI c 70 6 := hx.i (by omega) (by rw [hk.2.1]; exact hy.1)
  have e7 : fI e 70 7 = fI c 70 7 := hx.i (by omega) (by rw [hk.2.1]; exact hy.2.1)
  refine ⟨⟨by rw [e7]; exact k1, k2, by rw [e6]; exact k3, by rw [e6]; exact k4⟩, fun i u hi => ?_⟩
  rw [e6]
  have hS := k5 i u hi
  have hp : pos (fI c 70 6) K.length i < 20 := by unfold pos; omega
  generalize pos (fI c 70 6) K.length i = p at hS hp ⊢
  obtain ⟨⟨p1, p2⟩, p3, p4, p5⟩ := hK u (List.mem_of_getElem? hi)
  obtain ⟨o1, o2, -⟩ := hX.2.1.1 p hp
  have hky : ky (75 + 5 * p) (kl c (75 + 5 * p)) = 9 := by rw [o2]; unfold ky; rw [if_neg (by omega)]
  have row : ∀ j, j < 4 → aI e (75 + 5 * p + (j + 1)) = aI c (75 + 5 * p + (j + 1)) ∧ aR e (75 + 5 * p + (j + 1)) = aR c (75 + 5 * p + (j + 1)) := fun j hj => by
    have hm := snR_mem hp hj
    rw [show 76 + 5 * p + j = 75 + 5 * p + (j + 1) by omega] at hm
    have hq : rk (75 + 5 * p + (j + 1)) (kl c (75 + 5 * p + (j + 1))) ∉ rs := by
      unfold rk
      rw [if_pos (by omega)]
      exact hr _ hm
    exact ⟨hx.ai (by omega) hq, hx.ar (by omega) hq⟩
  have lt : ∀ y, y ∈ fl u.1 → y < s.1 8 := fun y hy => (AT_mem u.1 p1 y hy).1.2
  obtain ⟨⟨q1, q2⟩, q3⟩ := hS
  refine ⟨⟨?_, ?_⟩, fun k x hx' => ?_⟩
  · rw [hx.i (by omega) (by rw [hky]; exact hy.2.2.1)]; exact q1
  · rw [hx.r (by omega) (by rw [hky]; exact hy.2.2.2), q2]
    exact (hE _ (lt _ p3)).symm
  · obtain ⟨g1, g2, g3, g4⟩ := q3 k x hx'
    have hxm := List.mem_of_getElem? hx'
    rw [(row 0 (by decide)).2, (row 1 (by decide)).2, (row 2 (by decide)).1, (row 3 (by decide)).1, g1, g2, hE x (lt x hxm)]
    refine ⟨rfl, (hE _ ?_).symm, g3, g4⟩
    by_cases w : x = hd u.1
    · rw [w, p4]; omega
    · exact lt _ ((AT_mem u.1 p1 x hxm).2.2.2 w).1
end
