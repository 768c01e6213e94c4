/-! Steps of the pair: the box. -/
def BU (n : Int) (s u : SM) : Prop := SX [0, 71, 73] [1, 72] s u ∧ BX u ∧ CM (n + 1) u
section
variable {iv : List (Int × Int)} {L : Nat} {h0 : MH} {A A' : Int → Nat} {c e : SC} {s w v u : SM} {t t' : Term} {n : Int} {K K' : List Snap} {Sh : Int → Option Snap} {V : Term} {W : List (Int × Int)} {ys : List (Nat × Nat)} {rs : List Nat} {d d2 : Nat} {z a b i j k q x f r : Int}
theorem BU_rf (hM : MS n s t K Sh V W) : BU n s s := ⟨SX.rf, hM.2.1.1, CM_up hM.2.1.2 (by omega)⟩
theorem BU_mt (hM : MS n s t K Sh V W) (hf : 0 ≤ f ∧ f < 6) : BU n s (mtU s f) := by
  have := MS_mt hM hf
  exact ⟨SX.eq (ys := [0]) (fs := [1]) (eqx_ua (eqx_us eqx.rf (by decide)) (by decide)) (by decide) (by decide), this.2.1.1, this.2.1.2⟩
theorem BU_73 (hM : MS n s t K Sh V W) : BU n s (us s 73 z) := ⟨SX.eq (ys := [73]) (fs := []) (eqx_us eqx.rf (by decide)) (by decide) (by decide), hM.2.1.1, CM_up (n := n) (s := us s 73 z) hM.2.1.2 (by omega)⟩
theorem BU_box (hM : MS n s t K Sh V W) : BU n s (boxU s z) := by
  unfold boxU
  split
  · exact BU_rf hM
  · split
    · exact BU_mt hM (by decide)
    · rename_i g1 g2
      have hB := hM.1.1.1.2.2.2.2.1.1
      have e0 : eqx [71] [72] s (zbx (us s 71 z)) := ⟨fun y hy => if_neg (fun q => hy (by rw [q]; decide)), fun f hf => by
        funext i
        show (if f = 72 ∧ 0 ≤ i ∧ i < 8 then 0 else s.2 f i) = s.2 f i
        rw [if_neg (fun q => hf (by rw [q.1]; decide))]⟩
      refine ⟨SX.eq (ys := [71]) (fs := [72]) e0 (by decide) (by decide), ⟨⟨show 0 ≤ z by omega, show z ≤ 8 by omega⟩, fun i i0 i8 => ?_⟩, fun f f0 f6 => ?_⟩
      · have e1 : (zbx (us s 71 z)).2 72 i = 0 := if_pos ⟨rfl, i0, i8⟩
        rw [e1]
        exact ⟨Int.le_refl _, hB⟩
      · rw [e0.2 1 (by decide)]
        exact CM_up hM.2.1.2 (by omega) f f0 f6
theorem BU_kep (hM : MS n s t K Sh V W) : BU n s (kepU s t i b) := by
  unfold kepU
  split
  · rename_i hb
    split
    · rename_i g
      have hB := hM.1.1.1.lt hb
      have hX := hM.2.1.1
      have e0 : eqx [] [72] s (ua s 72 i (b + 1)) := eqx_ua eqx.rf (by decide)
      refine ⟨SX.eq (ys := []) (fs := [72]) e0 (by decide) (by decide), ⟨hX.1, fun j j0 j8 => ?_⟩, fun f f0 f6 => ?_⟩
      · show 0 ≤ (if (72 : Nat) = 72 ∧ j = i then b + 1 else s.2 72 j) ∧ (if (72 : Nat) = 72 ∧ j = i then b + 1 else s.2 72 j) ≤ s.1 8
        by_cases q : j = i
        · rw [if_pos ⟨rfl, q⟩]; omega
        · rw [if_neg (fun w => q w.2)]; exact hX.2 j j0 j8
      · rw [e0.2 1 (by decide)]
        exact CM_up hM.2.1.2 (by omega) f f0 f6
    · exact BU_mt hM (by decide)
  · exact BU_rf hM
theorem BU_bxd (hM : MS n s t K Sh V W) : BU n s (bxdU s i k) := by
  unfold bxdU
  split
  · split
    · exact BU_73 hM
    · exact BU_mt hM (by have := lak_in (s := s) (i := i) (k := k); omega)
  · exact BU_rf hM
theorem BU_sha (hM : MS n s t K Sh V W) : BU n s (shaU s i j) := by
  unfold shaU
  split
  · exact BU_73 hM
  · refine BU_mt hM ?_
    unfold shaF
    split
    · decide
    · split
      · decide
      · split
        · decide
        · split <;> decide
theorem ky5n {a : Nat} : ky a 5 ≠ 1 := by
  unfold ky
  split <;> decide
/-- .. where one field of the desk itself changes -/
theorem DLK_x1 (h : DLK A c s t W) (hX : FIX c) (hN : ND A c s) (hx : CX ys rs c e) (hr : RMk 0 0 c e) (hy : (∀ k, (k, 11) ∉ ys) ∧ (∀ k, k ≠ 1 → (k, 12) ∉ ys) ∧ (1, 15) ∉ ys) (hm : ∀ x, x ∈ fl t → 0 ≤ x ∧ x < s.1 8) (h8 : v.1 8 = s.1 8) (h35 : v.1 35 = s.1 35) (h42 : ∀ b, 0 ≤ b → b < s.1 8 → v.2 42 b = s.2 42 b) : DLK A e v t W := by
  obtain ⟨h1, h2, h3, h4⟩ := h
  have h353 := hX.2.2.1
  have e15 : fI e 64 15 = fI c 64 15 := hx.i (by omega) (by rw [hX.wt.1]; exact hy.2.2)
  have lt : ∀ b, 0 ≤ b → b < s.1 8 → A b < nxt c ∧ kl c (A b) = 5 := fun b b0 b1 => by
    obtain ⟨⟨n1, -⟩, n9, -⟩ := hN.2 b b0 b1
    exact ⟨by omega, n1⟩
  have r12 : ∀ a, a < nxt c → kl c a = 5 → fR e a 12 = fR c a 12 := fun a ha hk => hx.r ha (hy.2.1 _ (by rw [hk]; exact ky5n))
  refine ⟨by rw [e15, h35]; exact h1, QN_up h2 hN EXT.rf hx hy.1 (fun a ha h hk => (r12 a ha hk).trans h) (NWc_nn hr.1) (by omega), fun b hb => ?_, fun w => ⟨fun b b0 b1 hf => ?_, fun b hb => ?_⟩⟩
  · have := lt b (hm b hb).1 (hm b hb).2
    rw [r12 _ this.1 this.2]; exact h3 b hb
  · rw [h8] at b1
    rw [h42 b b0 b1] at hf ⊢
    have := lt b b0 b1
    rw [r12 _ this.1 this.2]
    exact (h4 (by rw [← h35]; exact w)).1 b b0 b1 hf
  · rw [hx.i (lt b (hm b hb).1 (hm b hb).2).1 (hy.1 _)]
    exact (h4 (by rw [← h35]; exact w)).2 b hb
theorem bx_pair (hM : MS n s t K Sh V W) (hD : DKc A c s t K Sh ∧ WKD A c s V ∧ DLK A c s t W) (hu : BU n s u) (hx : SX [] [] u v) (hc : CX [(1, 12), (1, 13), (1, 14)] [197, 198] c e) (hr : RMk 0 0 c e) (hb : BXc A e u) (hf : FNc e u) : PAIR (n + 1) v e ∧ RQ c e := by
  obtain ⟨d1, d2, d3⟩ := id hD
  have hX := d1.1.1.1
  have hT := hM.1.1
  obtain ⟨x0, hB, hC⟩ := hu
  have sx : SX [0, 71, 73] [1, 72] s v := x0.tr (hx.up (by decide) (by decide))
  have hA : AFT v t := hT.x sx (by decide) (by decide)
  have hM' : MS (n + 1) v t K Sh V W := MS_g hM sx (by decide) (by decide) hA (KIs_x hM.1.2.1 sx (by decide) (by decide)) (BX_x hB hx (by decide) (by decide) (by rw [hx.1 8 (by decide) (by decide)]; exact Int.le_refl _)) (hC.x hx (by decide)) (hM.2.2.1.2.x sx (by decide) (by decide))
  have r1 : R1 A e s t := d1.1.x hT.1 hc (by decide) (by decide) (by decide) (by decide)
  have r1 := R1_sx r1 hT.1 hA.1 hT.2.1 hM.1.2.1 sx (by decide) (by decide)
  have sb := SBX_x hx (by decide) (by decide)
  have np : NPY [(1, 12), (1, 13), (1, 14)] [197, 198] := ⟨fun y => ⟨by simp, by simp⟩, ⟨by decide, by decide⟩, by decide, by decide, by decide, by decide⟩
  have dk : DKc A e v t K Sh := ⟨r1, ⟨hb.sb sb, hf.sb sb, d1.2.1.2.2.x hX hc (by decide) (fun a ha => by simp at ha; omega)⟩, d1.2.2.1.x hX EXT.rf hT.1.2.2.2.2.1.1 (KPs hM) hc (by decide) (by decide), d1.2.2.2.x hX hc (by decide) (fun a ha => by simp at ha; omega)⟩
  exact ⟨⟨A, t, K, Sh, V, W, hM', dk, WKD_x d2 hX hc np (fun y => by simp) (w183 hX hc ⟨by decide, by decide⟩ ⟨by decide, by decide⟩) EXT.rf ⟨sx.1 56 (by decide) (by decide), sx.1 60 (by decide) (by decide), sx.1 61 (by decide) (by decide)⟩ (fun b hb => sx.nod (Or.inl rfl) (by decide) (by have := hT.1.2.2.2.2.1; omega)) (by rw [sx.1 8 (by decide) (by decide)]; exact Int.le_refl _), DLK_x1 d3 hX d1.1.1.2.1 hc hr ⟨fun k => by simp, fun k hk => by simp; omega, by decide⟩ (mm hM) (sx.1 8 (by decide) (by decide)) (sx.1 35 (by decide) (by decide)) (fun b _ _ => by rw [sx.row (f := 42) (by decide) (by decide) (by decide)])⟩, RQ_cx hX hc np hr (by decide) (by decide)⟩
theorem fn_r (hM : MS n s t K Sh V W) (hn : n ≤ 512) : ∀ f, 0 ≤ f → f < 6 → 0 ≤ s.2 1 f ∧ s.2 1 f ≤ 600 := fun f f0 f6 => by have := hM.2.1.2 f f0 f6; omega
theorem ps_box (h : PAIR n s c) (hn : n ≤ 512) (hdd : 410 ≤ d) (hd2 : 400 ≤ d2) : cm iv L h0 d 151 [vr 307, vi z] s (qi fun r s' => ∀ h0', ck iv L h0' d2 31 [vr 64, vi z] c (qi (PQ (n + 1) c r s'))) := by
  have hP := h
  obtain ⟨d, rfl⟩ : ∃ k, d = k + 1 := ⟨d - 1, by omega⟩
  obtain ⟨d2, rfl⟩ : ∃ k, d2 = k + 1 := ⟨d2 - 1, by omega⟩
  obtain ⟨A, t, K, Sh, V, W, hM, hD⟩ := h
  refine box_ok hM.2.1.2 (by omega) (fun h0' => box_c hD.1.1.1.1 hD.1.1.1.2.1 hD.1.2.1.1 hD.1.2.1.2.1 (fn_r hM hn) (fun e hc hr hb hf => ?_))
  have := bx_pair hM hD (BU_box hM) SX.rf (hc.up (by decide) (by decide)) hr hb hf
  exact ⟨rfl, this.1, this.2⟩
theorem ps_keep (h : PAIR n s c) (hn : n ≤ 512) (hdd : 410 ≤ d) (hd2 : 400 ≤ d2) : cm iv L h0 d 152 [vr 307, vi i, vi b] s (qi fun r s' => ∀ h0', ck iv L h0' d2 32 [vr 64, vi i, vi b] c (qi (PQ (n + 1) c r s'))) := by
  have hP := h
  obtain ⟨d2, rfl⟩ : ∃ k, d2 = k + 1 := ⟨d2 - 1, by omega⟩
  obtain ⟨A, t, K, Sh, V, W, hM, hD⟩ := h
  refine keep_ok hM.1.1.1 hM.2.1.1 hM.2.1.2 (by omega) (by omega) (fun w hw h0' => keep_c hD.1.1 hM.1.1.1 hD.1.2.1.1 hM.2.1.1 hD.1.2.1.2.1 (fn_r hM hn) (fun e hc hr hb hf => ?_))
  have := bx_pair hM hD (BU_kep hM) hw (hc.up (by decide) (by decide)) hr hb hf
  exact ⟨rfl, this.1, this.2⟩
theorem ps_boxed (h : PAIR n s c) (hn : n ≤ 512) (hdd : 410 ≤ d) (hd2 : 400 ≤ d2) : cm iv L h0 d 154 [vr 307, vi i, vi k] s (qi fun r s' => ∀ h0', ck iv L h0' d2 33 [vr 64, vi i, vi k] c (qi (PQ (n + 1) c r s'))) := by
  have hP := h
  obtain ⟨d, rfl⟩ : ∃ k, d = k + 2 := ⟨d - 2, by omega⟩
  obtain ⟨d2, rfl⟩ : ∃ k, d2 = k + 1 := ⟨d2 - 1, by omega⟩
  obtain ⟨A, t, K, Sh, V, W, hM, hD⟩ := h
  refine boxed_ok hM.2.1.1 hM.1.1.1.2.2.2.2.1.2 hM.2.1.2 (by omega) (fun h0' => boxed_c hD.1.1.1.1 hD.1.1.1.2.1 hD.1.2.1.1 hM.2.1.1 hD.1.2.1.2.1 (fn_r hM hn) (fun e hc hr hb hf => ?_))
  have := bx_pair hM hD (BU_bxd hM) SX.rf (hc.up (by decide) (by decide)) hr hb hf
  exact ⟨rfl, this.1, this.2⟩
theorem ps_share (h : PAIR n s c) (hn : n ≤ 512) (hdd : 410 ≤ d) (hd2 : 400 ≤ d2) : cm iv L h0 d 155 [vr 307, vi i, vi j] s (qi fun r s' => ∀ h0', ck iv L h0' d2 34 [vr 64, vi i, vi j] c (qi (PQ (n + 1) c r s'))) := by
  have hP := h
  obtain ⟨d, rfl⟩ : ∃ k, d = k + 2 := ⟨d - 2, by omega⟩
  obtain ⟨d2, rfl⟩ : ∃ k, d2 = k + 1 := ⟨d2 - 1, by omega⟩
  obtain ⟨A, t, K, Sh, V, W, hM, hD⟩ := h
  refine share_ok hM.2.1.1 hM.1.1.1.2.2.2.2.1.2 hM.2.1.2 (by omega) (fun h0' => share_c hD.1.1.1.1 hD.1.1.1.2.1 hD.1.2.1.1 hM.2.1.1 hD.1.2.1.2.1 (fn_r hM hn) (fun e hc hr hb hf => ?_))
  have := bx_pair hM hD (BU_sha hM) SX.rf (hc.up (by decide) (by decide)) hr hb hf
  exact ⟨rfl, this.1, this.2⟩
end
