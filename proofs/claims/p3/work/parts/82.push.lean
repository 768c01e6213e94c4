/-! What is kept behind an act; undo(). -/
section
variable {s w : SM} {k m c j a : Int}
theorem en2_25 : (en2 s k m c).2 25 j = if j = k then m else s.2 25 j := by
  simp [en2, cp2, cp1, ua_2]
theorem en2_26 : (en2 s k m c).2 26 j = if j = k then c else s.2 26 j := by
  simp [en2, cp2, cp1, ua_2]
theorem en2_27 : (en2 s k m c).2 27 j = if 80 * k ≤ j ∧ j < 80 * k + 80 then s.2 32 (j - 80 * k) else s.2 27 j := by
  simp [en2, cp2, cp1, ua_2]
theorem en2_28 : (en2 s k m c).2 28 j = if 80 * k ≤ j ∧ j < 80 * k + 80 then s.2 33 (j - 80 * k) else s.2 28 j := by
  simp [en2, cp2, cp1, ua_2]
theorem en2_29 : (en2 s k m c).2 29 j = if 240 * k ≤ j ∧ j < 240 * k + 240 then s.2 34 (j - 240 * k) else s.2 29 j := by
  simp [en2, cp2, cp1, ua_2]
theorem en2_o {f : Nat} (hf : f ≠ 25 ∧ f ≠ 26 ∧ f ≠ 27 ∧ f ≠ 28 ∧ f ≠ 29) : (en2 s k m c).2 f = s.2 f := by
  funext j
  simp [en2, cp2, cp1, ua_2, hf]
/-- what enU leaves as it was -/
theorem enU_e : eqx [24, 35] [25, 26, 27, 28, 29] s (enU s a) := by
  have h1 : eqx [24] [25, 26, 27, 28, 29] s (enS s) := by
    unfold enS
    split
    · refine eqx_us ⟨fun _ _ => rfl, fun f hf => ?_⟩ (by decide)
      funext j
      simp at hf
      show (if f = 29 ∧ 0 ≤ j ∧ j < 4560 then _ else if (f = 27 ∨ f = 28) ∧ 0 ≤ j ∧ j < 1520 then _ else if (f = 25 ∨ f = 26) ∧ 0 ≤ j ∧ j < 19 then _ else s.2 f j) = s.2 f j
      rw [if_neg (by omega), if_neg (by omega), if_neg (by omega)]
    · exact eqx.rf
  refine eqx_us (eqx_us ?_ (by decide)) (by decide)
  refine (h1.up (fun y q => by simp at q ⊢; omega) (fun y q => q)).tr ⟨fun _ _ => rfl, fun f hf => ?_⟩
  exact en2_o (by simp at hf; omega)
theorem KR_cg {so so' : Int → Int} {m c m' c' : Int} {rn rv rp rn' rv' rp' : Int → Int} {u : Snap} (h : KR so m c rn rv rp u) (hl : (fl u.1).length ≤ 60) (hm : m' = m) (hc : c' = c) (hs : ∀ x, x ∈ fl u.1 → so' x = so x) (h1 : ∀ k, 0 ≤ k → k < 60 → rn' k = rn k ∧ rv' k = rv k) (h2 : ∀ k, 0 ≤ k → k < 180 → rp' k = rp k) : KR so' m' c' rn' rv' rp' u := by
  obtain ⟨a1, a2, a3⟩ := h
  refine ⟨hm.trans a1, hc.trans a2, fun k x hk => ?_⟩
  obtain ⟨b1, b2, b3⟩ := a3 k x hk
  have hkl := (List.getElem?_eq_some_iff.mp hk).1
  obtain ⟨e1, e2⟩ := h1 k (by omega) (by omega)
  refine ⟨e1.trans b1, e2.trans b2, fun j j0 j1 => ?_⟩
  rw [hs x (List.mem_of_getElem? hk)] at j1
  have := pO_in (so x)
  rw [h2 _ (by omega) (by omega)]
  exact b3 j j0 j1
theorem KP_up {u : Snap} (h : KP s u) (h8 : s.1 8 ≤ w.1 8) (hs : ∀ x, 0 ≤ x → x < s.1 8 → w.2 9 x = s.2 9 x) : KP w u := by
  obtain ⟨⟨h1, h2, h3, h4⟩, h5, h6, h7, h9⟩ := h
  have e : ∀ x, x ∈ fl u.1 → w.2 9 x = s.2 9 x := fun x hx => by
    have := (AT_mem u.1 h1 x hx).1
    exact hs x this.1 this.2
  refine ⟨⟨AT_ag h8 h1 h3 (fun x hx => ⟨e x hx, rfl, rfl, fun _ _ _ => rfl⟩), ?_, h3, h4⟩, h5, h6, h7, fun x hx => by rw [e x hx]; exact h9 x hx⟩
  unfold full
  rw [e _ (hd_mem _ h1)]
  exact h2
theorem KL_up {K : List Snap} (h : KL s K) (h8 : s.1 8 ≤ w.1 8) (hs : ∀ x, 0 ≤ x → x < s.1 8 → w.2 9 x = s.2 9 x) (h24 : w.1 24 = s.1 24) (hr : w.2 25 = s.2 25 ∧ w.2 26 = s.2 26 ∧ w.2 27 = s.2 27 ∧ w.2 28 = s.2 28 ∧ w.2 29 = s.2 29) : KL w K := by
  obtain ⟨h1, h2, h3⟩ := h
  obtain ⟨r1, r2, r3, r4, r5⟩ := hr
  refine ⟨h24.trans h1, h2, fun i u hi => ?_⟩
  obtain ⟨a1, a2⟩ := h3 i u hi
  refine ⟨KR_cg a1 a2.1.2.2.2 (by rw [r1]) (by rw [r2]) (fun x hx => ?_) (fun k _ _ => by rw [r3, r4]; exact ⟨rfl, rfl⟩) (fun k _ _ => by rw [r5]), KP_up a2 h8 hs⟩
  have := (AT_mem u.1 a2.1.1 x hx).1
  exact hs x this.1 this.2
theorem KL.x {K : List Snap} (h : KL s K) (h8 : s.1 8 ≤ 3000) (hx : SX [] [] s w) : KL w K :=
  KL_up h (by rw [hx.1 8 (by decide) (by decide)]; exact Int.le_refl _) (fun x x0 x1 => hx.2 9 (by decide) (by decide) x (by unfold scI; omega)) (hx.1 24 (by decide) (by decide))
    ⟨funext fun i => hx.2 25 (by decide) (by decide) i (by unfold scI; omega), funext fun i => hx.2 26 (by decide) (by decide) i (by unfold scI; omega), funext fun i => hx.2 27 (by decide) (by decide) i (by unfold scI; omega), funext fun i => hx.2 28 (by decide) (by decide) i (by unfold scI; omega), funext fun i => hx.2 29 (by decide) (by decide) i (by unfold scI; omega)⟩
theorem enU_K {K : List Snap} {u : Snap} (h : KL s K) (hA : AH s u) (hP : KP s u) : KL (enU s a) (push K u) := by
  obtain ⟨h1, h2, h3⟩ := h
  have e9 : (enU s a).2 9 = s.2 9 := enU_e.2 9 (by decide)
  have e8 : (enU s a).1 8 = s.1 8 := enU_e.1 8 (by decide)
  have kp : ∀ v, KP s v → KP (enU s a) v := fun v hv => KP_up hv (by rw [e8]; exact Int.le_refl _) (fun x _ _ => by rw [e9])
  have q24 : (enU s a).1 24 = (enS s).1 24 + 1 := rfl
  have hl := hP.1.2.2.2
  have r25 : ∀ j, (enU s a).2 25 j = if j = (enS s).1 24 then s.1 30 else (enS s).2 25 j := fun j => en2_25 (s := enS s) (k := (enS s).1 24) (m := s.1 30) (c := s.1 31)
  have r26 : ∀ j, (enU s a).2 26 j = if j = (enS s).1 24 then s.1 31 else (enS s).2 26 j := fun j => en2_26 (s := enS s) (k := (enS s).1 24) (m := s.1 30) (c := s.1 31)
  have r27 : ∀ j, (enU s a).2 27 j = if 80 * (enS s).1 24 ≤ j ∧ j < 80 * (enS s).1 24 + 80 then (enS s).2 32 (j - 80 * (enS s).1 24) else (enS s).2 27 j := fun j => en2_27 (s := enS s) (k := (enS s).1 24) (m := s.1 30) (c := s.1 31)
  have r28 : ∀ j, (enU s a).2 28 j = if 80 * (enS s).1 24 ≤ j ∧ j < 80 * (enS s).1 24 + 80 then (enS s).2 33 (j - 80 * (enS s).1 24) else (enS s).2 28 j := fun j => en2_28 (s := enS s) (k := (enS s).1 24) (m := s.1 30) (c := s.1 31)
  have r29 : ∀ j, (enU s a).2 29 j = if 240 * (enS s).1 24 ≤ j ∧ j < 240 * (enS s).1 24 + 240 then (enS s).2 34 (j - 240 * (enS s).1 24) else (enS s).2 29 j := fun j => en2_29 (s := enS s) (k := (enS s).1 24) (m := s.1 30) (c := s.1 31)
  by_cases hk : K.length = 20
  · have c24 : s.1 24 = 20 := by omega
    have es : enS s = us (sh3 (sh2 (sh1 s 19) 1520) 4560) 24 19 := if_pos c24
    have x24 : (enS s).1 24 = 19 := by rw [es]; rfl
    have x32 : (enS s).2 32 = s.2 32 := by rw [es]; funext j; simp [us_2, sh3, sh2, sh1]
    have x33 : (enS s).2 33 = s.2 33 := by rw [es]; funext j; simp [us_2, sh3, sh2, sh1]
    have x34 : (enS s).2 34 = s.2 34 := by rw [es]; funext j; simp [us_2, sh3, sh2, sh1]
    have x25 : ∀ j, 0 ≤ j → j < 19 → (enS s).2 25 j = s.2 25 (j + 1) := fun j _ _ => by rw [es]; simp [us_2, sh3, sh2, sh1]; omega
    have x26 : ∀ j, 0 ≤ j → j < 19 → (enS s).2 26 j = s.2 26 (j + 1) := fun j _ _ => by rw [es]; simp [us_2, sh3, sh2, sh1]; omega
    have x27 : ∀ j, 0 ≤ j → j < 1520 → (enS s).2 27 j = s.2 27 (j + 80) := fun j _ _ => by rw [es]; simp [us_2, sh3, sh2, sh1]; omega
    have x28 : ∀ j, 0 ≤ j → j < 1520 → (enS s).2 28 j = s.2 28 (j + 80) := fun j _ _ => by rw [es]; simp [us_2, sh3, sh2, sh1]; omega
    have x29 : ∀ j, 0 ≤ j → j < 4560 → (enS s).2 29 j = s.2 29 (j + 240) := fun j _ _ => by rw [es]; simp [us_2, sh3, sh2, sh1]; omega
    rw [x24] at r25 r26 r27 r28 r29 q24
    rw [x32] at r27
    rw [x33] at r28
    rw [x34] at r29
    have hp : push K u = K.tail ++ [u] := by unfold push; rw [if_pos hk]
    rw [hp]
    have ht : K.tail.length = 19 := by simp [hk]
    refine ⟨by rw [q24]; simp [hk], by simp [hk], fun i v hi => ?_⟩
    rw [e9]
    by_cases hi2 : i < 19
    · rw [List.getElem?_append_left (by omega), List.getElem?_tail] at hi
      obtain ⟨a1, a2⟩ := h3 (i + 1) v hi
      refine ⟨KR_cg a1 a2.1.2.2.2 ?_ ?_ (fun x _ => rfl) (fun k k0 k1 => ⟨?_, ?_⟩) (fun k k0 k1 => ?_), kp v a2⟩
      · rw [r25, if_neg (by omega), x25 _ (by omega) (by omega)]; rfl
      · rw [r26, if_neg (by omega), x26 _ (by omega) (by omega)]; rfl
      · show (enU s a).2 27 (80 * i + k) = s.2 27 (80 * ((i + 1 : Nat) : Int) + k)
        rw [r27, if_neg (by omega), x27 _ (by omega) (by omega), show (80 * (i : Int) + k + 80) = 80 * ((i + 1 : Nat) : Int) + k by omega]
      · show (enU s a).2 28 (80 * i + k) = s.2 28 (80 * ((i + 1 : Nat) : Int) + k)
        rw [r28, if_neg (by omega), x28 _ (by omega) (by omega), show (80 * (i : Int) + k + 80) = 80 * ((i + 1 : Nat) : Int) + k by omega]
      · show (enU s a).2 29 (240 * i + k) = s.2 29 (240 * ((i + 1 : Nat) : Int) + k)
        rw [r29, if_neg (by omega), x29 _ (by omega) (by omega), show (240 * (i : Int) + k + 240) = 240 * ((i + 1 : Nat) : Int) + k by omega]
    · have hi3 : i = 19 := by
        have := (List.getElem?_eq_some_iff.mp hi).1
        simp [hk] at this
        omega
      subst hi3
      rw [List.getElem?_append_right (by omega)] at hi
      simp [hk] at hi
      subst hi
      refine ⟨KR_cg hA hl ?_ ?_ (fun x _ => rfl) (fun k k0 k1 => ⟨?_, ?_⟩) (fun k k0 k1 => ?_), kp u hP⟩
      · rw [r25, if_pos (by omega)]
      · rw [r26, if_pos (by omega)]
      · show (enU s a).2 27 (80 * ((19 : Nat) : Int) + k) = s.2 32 k
        rw [r27, if_pos (by omega), show (80 * ((19 : Nat) : Int) + k - 80 * 19) = k by omega]
      · show (enU s a).2 28 (80 * ((19 : Nat) : Int) + k) = s.2 33 k
        rw [r28, if_pos (by omega), show (80 * ((19 : Nat) : Int) + k - 80 * 19) = k by omega]
      · show (enU s a).2 29 (240 * ((19 : Nat) : Int) + k) = s.2 34 k
        rw [r29, if_pos (by omega), show (240 * ((19 : Nat) : Int) + k - 240 * 19) = k by omega]
  · have es : enS s = s := if_neg (by omega)
    rw [es] at r25 r26 r27 r28 r29 q24
    have hp : push K u = K ++ [u] := by unfold push; rw [if_neg hk]
    rw [hp]
    refine ⟨by rw [q24, h1]; simp, by simp; omega, fun i v hi => ?_⟩
    rw [e9]
    by_cases hi2 : i < K.length
    · rw [List.getElem?_append_left hi2] at hi
      obtain ⟨a1, a2⟩ := h3 i v hi
      refine ⟨KR_cg a1 a2.1.2.2.2 ?_ ?_ (fun x _ => rfl) (fun k k0 k1 => ⟨?_, ?_⟩) (fun k k0 k1 => ?_), kp v a2⟩
      · rw [r25, if_neg (by omega)]
      · rw [r26, if_neg (by omega)]
      · exact (r27 _).trans (if_neg (by omega))
      · exact (r28 _).trans (if_neg (by omega))
      · exact (r29 _).trans (if_neg (by omega))
    · have hi3 : i = K.length := by
        have := (List.getElem?_eq_some_iff.mp hi).1
        simp at this
        omega
      subst hi3
      rw [List.getElem?_append_right (by omega)] at hi
      simp at hi
      subst hi
      refine ⟨KR_cg hA hl ?_ ?_ (fun x _ => rfl) (fun k k0 k1 => ⟨?_, ?_⟩) (fun k k0 k1 => ?_), kp u hP⟩
      · rw [r25, if_pos (by omega)]
      · rw [r26, if_pos (by omega)]
      · refine (r27 _).trans ?_
        rw [if_pos (by omega), show (80 * (K.length : Int) + k - 80 * s.1 24) = k by omega]
      · refine (r28 _).trans ?_
        rw [if_pos (by omega), show (80 * (K.length : Int) + k - 80 * s.1 24) = k by omega]
      · refine (r29 _).trans ?_
        rw [if_pos (by omega), show (240 * (K.length : Int) + k - 240 * s.1 24) = k by omega]
end
