/-! Steps of the pair: looks. -/
section
variable {iv : List (Int × Int)} {L : Nat} {h0 : MH} {A A' : Int → Nat} {c e : SC} {s w v : SM} {t t' : Term} {n : Int} {K K' : List Snap} {Sh : Int → Option Snap} {V : Term} {W : List (Int × Int)} {ys : List (Nat × Nat)} {rs : List Nat} {d d2 : Nat} {z b i k q x f r : Int}
theorem same_pair (h : PAIR n s c) (hx : SX [] [] s w) : PQ (n + 1) c r w r c := ⟨rfl, PAIR_up (PAIR_sx h hx) (by omega), RQ.rf⟩
theorem shl_p (hM : MS n s t K Sh V W) : ∀ p, 0 ≤ p → p < 6 → 0 ≤ s.2 37 p ∧ s.2 37 p ≤ 60 := fun p p0 p6 => by
  obtain ⟨s1, s2⟩ := hM.2.2.1.2 p p0 p6
  cases e : Sh p with
  | none => rw [s1 e]; decide
  | some u =>
    obtain ⟨g1, g2, -⟩ := s2 u e
    have := g2.2.2.2
    rw [g1]
    omega
theorem shl_c (hM : MS n s t K Sh V W) (hD : DKc A c s t K Sh) : ∀ p : Nat, p < 6 → fI c (199 + 6 * p) 5 = s.2 37 p ∧ 0 ≤ s.2 37 p ∧ s.2 37 p ≤ 60 := fun p p6 => by
  refine ⟨?_, shl_p hM p (by omega) (by omega)⟩
  obtain ⟨s1, s2⟩ := hM.2.2.1.2 p (by omega) (by omega)
  obtain ⟨c1, c2⟩ := hD.2.2.2 p p6
  cases e : Sh p with
  | none => rw [s1 e, c1 e]
  | some u => rw [(s2 u e).1, (c2 u e).1]
theorem ps_nodes (h : PAIR n s c) (hdd : 410 ≤ d) (hd2 : 400 ≤ d2) : cm iv L h0 d 82 [vr 307] s (qi fun r s' => ∀ h0', ck iv L h0' d2 5 [vr 64] c (qi (PQ (n + 1) c r s'))) := by
  have hP := h
  obtain ⟨A, t, K, Sh, V, W, hM, hD⟩ := h
  exact nodes_ok hM.1.1.1 (by omega) (fun w hw h0' => nodes_c hD.1.1 (same_pair hP (SX_lay hw)))
theorem ps_cursor (h : PAIR n s c) (hdd : 410 ≤ d) (hd2 : 400 ≤ d2) : cm iv L h0 d 83 [vr 307] s (qi fun r s' => ∀ h0', ck iv L h0' d2 6 [vr 64] c (qi (PQ (n + 1) c r s'))) := by
  have hP := h
  obtain ⟨A, t, K, Sh, V, W, hM, hD⟩ := h
  exact B83 (fun h0' => cursor_c hD.1.1 hM.1.1 (same_pair hP SX.rf))
theorem ps_told (h : PAIR n s c) (hdd : 410 ≤ d) (hd2 : 400 ≤ d2) : cm iv L h0 d 94 [vr 307, vi b, vi k] s (qi fun r s' => ∀ h0', ck iv L h0' d2 7 [vr 64, vi b, vi k] c (qi (PQ (n + 1) c r s'))) := by
  have hP := h
  obtain ⟨d2, rfl⟩ : ∃ k, d2 = k + 1 := ⟨d2 - 1, by omega⟩
  obtain ⟨A, t, K, Sh, V, W, hM, hD⟩ := h
  exact told_ok hM.1.1.1 hM.1.1.2.1 hM.1.2.1 (by omega) (fun w hw h0' => told_c hD.1.1 hM.1.1.1 (same_pair hP hw))
theorem ps_sign (h : PAIR n s c) (hi : i ≤ 2147483647) (hdd : 410 ≤ d) (hd2 : 400 ≤ d2) : cm iv L h0 d 97 [vr 307, vi b, vi q, vi i] s (qi fun r s' => ∀ h0', ck iv L h0' d2 9 [vr 64, vi b, vi q, vi i] c (qi (PQ (n + 1) c r s'))) := by
  have hP := h
  obtain ⟨d2, rfl⟩ : ∃ k, d2 = k + 1 := ⟨d2 - 1, by omega⟩
  obtain ⟨A, t, K, Sh, V, W, hM, hD⟩ := h
  exact sign_ok hM.1.1.1 hM.1.1.2.1 hM.1.2.1 (by omega) (fun w hw h0' => sign_c hD.1.1 hM.1.1.1 hi (same_pair hP hw))
theorem ps_hole (h : PAIR n s c) (hdd : 410 ≤ d) (hd2 : 400 ≤ d2) : cm iv L h0 d 98 [vr 307, vi i, vi f] s (qi fun r s' => ∀ h0', ck iv L h0' d2 10 [vr 64, vi i, vi f] c (qi (PQ (n + 1) c r s'))) := by
  have hP := h
  obtain ⟨A, t, K, Sh, V, W, hM, hD⟩ := h
  exact hole_ok hM.1.1.1 hM.1.1.2.1 hM.1.2.1 (by omega) (fun w hw h0' => hole_c hD.1.1 hM.1.1.1 (same_pair hP hw))
theorem ps_part (h : PAIR n s c) (hn : n ≤ 512) (hdd : 410 ≤ d) (hd2 : 400 ≤ d2) : cm iv L h0 d 95 [vr 307, vi b, vi i] s (qi fun r s' => ∀ h0', ck iv L h0' d2 8 [vr 64, vi b, vi i] c (qi (PQ (n + 1) c r s'))) := by
  have hP := h
  obtain ⟨d2, rfl⟩ : ∃ k, d2 = k + 1 := ⟨d2 - 1, by omega⟩
  obtain ⟨A, t, K, Sh, V, W, hM, hD⟩ := h
  have hr := fnd_b (f := 2) hM hD.1 hn (by decide)
  refine part_ok hM.1.1.1 hM.2.1.2 (by omega) (by omega) (fun w hw h0' => part_c hD.1.1 hM.1.1.1 hr ?_)
  unfold parU at hw
  by_cases g : b ∈ fl t ∧ ¬ (0 ≤ i ∧ i < pO (s.2 9 b))
  · rw [if_pos g] at hw ⊢
    have := ref_pair (f := 2) hM hD (by decide)
    exact ⟨rfl, PAIR_sx this.1 hw, this.2⟩
  · rw [if_neg g] at hw ⊢
    exact same_pair hP hw
theorem ps_steps (h : PAIR n s c) (hdd : 410 ≤ d) (hd2 : 400 ≤ d2) : cm iv L h0 d 139 [vr 307] s (qi fun r s' => ∀ h0', ck iv L h0' d2 26 [vr 64] c (qi (PQ (n + 1) c r s'))) := by
  have hP := h
  obtain ⟨A, t, K, Sh, V, W, hM, hD⟩ := h
  obtain ⟨p, q, hp, hv, ⟨h3, h5⟩, h4⟩ := hD.2.1
  exact B139 (fun h0' => dsteps_c hD.1.1.1.1 (by rw [h3]; exact same_pair hP SX.rf))
theorem ps_where (h : PAIR n s c) (hdd : 410 ≤ d) (hd2 : 400 ≤ d2) : cm iv L h0 d 140 [vr 307] s (qi fun r s' => ∀ h0', ck iv L h0' d2 27 [vr 64] c (qi (PQ (n + 1) c r s'))) := by
  have hP := h
  obtain ⟨A, t, K, Sh, V, W, hM, hD⟩ := h
  obtain ⟨p, q, hp, hv, ⟨h3, h5⟩, h4⟩ := hD.2.1
  exact B140 (fun h0' => dwhere_c hD.1.1.1.1 (by rw [h5]; exact same_pair hP SX.rf))
theorem ps_value (h : PAIR n s c) (hdd : 410 ≤ d) (hd2 : 400 ≤ d2) : cm iv L h0 d 148 [vr 307, vi k] s (qi fun r s' => ∀ h0', ck iv L h0' d2 28 [vr 64, vi k] c (qi (PQ (n + 1) c r s'))) := by
  have hP := h
  obtain ⟨d2, rfl⟩ : ∃ k, d2 = k + 1 := ⟨d2 - 1, by omega⟩
  obtain ⟨A, t, K, Sh, V, W, hM, hD⟩ := h
  have h8 := hM.1.1.1.2.2.2.2.1.2
  obtain ⟨p, q, hp, ⟨v1, v2⟩, -⟩ := hD.2.1
  refine value_ok h8 hM.2.2.2.2.1.1 (by omega) (fun hn h0' => ?_) (fun w hv hw h0' => ?_)
  · exact dvalue_c (A := A) (P := YNG c p) (o := wrt s V) hD.1.1.1.1 (fun _ => same_pair hP SX.rf) (fun g => absurd (v2 hn) g)
  · obtain ⟨g1, g2, g3⟩ := v1 hv
    exact dvalue_c (A := A) (P := YNG c p) (o := wrt s V) hD.1.1.1.1 (fun g => absurd g g1) (fun _ => ⟨g3, same_pair hP (SX.eq hw (by decide) (by decide))⟩)
theorem ps_left (h : PAIR n s c) (hdd : 410 ≤ d) (hd2 : 400 ≤ d2) : cm iv L h0 d 149 [vr 307, vi k] s (qi fun r s' => ∀ h0', ck iv L h0' d2 29 [vr 64, vi k] c (qi (PQ (n + 1) c r s'))) := by
  have hP := h
  obtain ⟨d2, rfl⟩ : ∃ k, d2 = k + 1 := ⟨d2 - 1, by omega⟩
  obtain ⟨A, t, K, Sh, V, W, hM, hD⟩ := h
  have h8 := hM.1.1.1.2.2.2.2.1.2
  obtain ⟨p, q, hp, ⟨v1, v2⟩, -⟩ := hD.2.1
  have hN := NDW_of hD.1.1 hM.1.1.1
  refine left_ok h8 hM.2.2.2.2.1.1 (by omega) (fun hn h0' => ?_) (fun w hv hw h0' => ?_)
  · exact dleft_c (V := V) (P := YNG c p) hD.1.1.1.1 hN (fun g => absurd (v2 hn) g) (fun _ => same_pair hP SX.rf) (fun g => absurd (v2 hn) g)
  · obtain ⟨g1, g2, g3⟩ := v1 hv
    exact dleft_c (V := V) (P := YNG c p) hD.1.1.1.1 hN (fun _ => ⟨g2.2.1, g3⟩) (fun g => absurd g g1) (fun _ => same_pair hP (SX.eq hw (by decide) (by decide)))
theorem ps_asked (h : PAIR n s c) (hdd : 410 ≤ d) (hd2 : 400 ≤ d2) : cm iv L h0 d 156 [vr 307] s (qi fun r s' => ∀ h0', ck iv L h0' d2 35 [vr 64] c (qi (fun _ e => PAIR (n + 1) s' e ∧ RQ c e))) := by
  have hP := h
  obtain ⟨A, t, K, Sh, V, W, hM, hD⟩ := h
  exact B156 (fun h0' => asked_c hD.1.1.1.1 ⟨PAIR_up hP (by omega), RQ.rf⟩)
theorem ps_count (h : PAIR n s c) (hdd : 410 ≤ d) (hd2 : 400 ≤ d2) : cm iv L h0 d 157 [vr 307, vi k] s (qi fun r s' => ∀ h0', ck iv L h0' d2 36 [vr 64, vi k] c (qi (PQ (n + 1) c r s'))) := by
  have hP := h
  obtain ⟨d2, rfl⟩ : ∃ k, d2 = k + 1 := ⟨d2 - 1, by omega⟩
  obtain ⟨A, t, K, Sh, V, W, hM, hD⟩ := h
  obtain ⟨p, q, hp, hv, h3, h4⟩ := hD.2.1
  exact count_ok hM.1.1.1 hM.1.1.2.1 hM.1.2.1 (shl_p hM) (by omega) (fun w hw h0' => count_c hD.1.1 hM.1.1.1 (hD.1.2.2.1.1.1.trans hM.2.2.1.1.1.symm) (shl_c hM hD.1) h4 (same_pair hP hw))
theorem ps_finding (h : PAIR n s c) (hdd : 410 ≤ d) (hd2 : 400 ≤ d2) : cm iv L h0 d 62 [vr 307] s (qi fun r s' => ∀ h0', ck iv L h0' d2 37 [vr 64] c (qi (PQ (n + 1) c r s'))) := by
  have hP := h
  obtain ⟨A, t, K, Sh, V, W, hM, hD⟩ := h
  exact B62 (fun h0' => finding_c hD.1.1.1.1 hD.1.2.1.2.1 (same_pair hP SX.rf))
theorem ps_findings (h : PAIR n s c) (hdd : 410 ≤ d) (hd2 : 400 ≤ d2) : cm iv L h0 d 63 [vr 307, vi f] s (qi fun r s' => ∀ h0', ck iv L h0' d2 38 [vr 64, vi f] c (qi (PQ (n + 1) c r s'))) := by
  have hP := h
  obtain ⟨d, rfl⟩ : ∃ k, d = k + 1 := ⟨d - 1, by omega⟩
  obtain ⟨A, t, K, Sh, V, W, hM, hD⟩ := h
  exact findings_ok (fun h0' => findings_c hD.1.1.1.1 hD.1.2.1.2.1 (same_pair hP SX.rf))
theorem ps_digest (h : PAIR n s c) (hdd : 410 ≤ d) (hd2 : 400 ≤ d2) : cm iv L h0 d 158 [vr 307] s (ql fun r s' => ∀ h0', ck iv L h0' d2 39 [vr 64] c (ql (PQ (n + 1) c r s'))) := by
  have hP := h
  obtain ⟨A, t, K, Sh, V, W, hM, hD⟩ := h
  exact digest_ok hM.1.1.1 hM.1.1.2.1 hM.1.2.1 (by omega) (fun w hw h0' => digest_c hD.1.1 hM.1.1 (same_pair hP hw))
theorem ps_kindOf (h : PAIR n s c) (hdd : 410 ≤ d) (hd2 : 400 ≤ d2) : cm iv L h0 d 69 [vr 307, vi k, vi z] s (qi fun r s' => ∀ h0', ck iv L h0' d2 3 [vr 64, vi k, vi z] c (qi (PQ (n + 1) c r s'))) := by
  have hP := h
  obtain ⟨d, rfl⟩ : ∃ k, d = k + 2 := ⟨d - 2, by omega⟩
  obtain ⟨d2, rfl⟩ : ∃ k, d2 = k + 1 := ⟨d2 - 1, by omega⟩
  obtain ⟨A, t, K, Sh, V, W, hM, hD⟩ := h
  exact kindOf_ok hM.1.2.1 (fun h0' => kindOf_c hD.1.1.1.1 hD.1.1.2.2.1 hM.1.2.1 (same_pair hP SX.rf))
end
