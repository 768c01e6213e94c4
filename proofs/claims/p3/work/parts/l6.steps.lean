/-! Steps of the pair: acts. -/
section
variable {iv : List (Int × Int)} {L : Nat} {h0 : MH} {A A' : Int → Nat} {c e : SC} {s s1 w v : SM} {t t' : Term} {n : Int} {K K' : List Snap} {Sh : Int → Option Snap} {V : Term} {W : List (Int × Int)} {ey ef : List Nat} {ys : List (Nat × Nat)} {rs : List Nat} {d d2 : Nat} {b i so z k f : Int}
/-- what a step leaves -/
def PQ (n : Int) (c : SC) (r : Int) (s' : SM) (r' : Int) (c' : SC) : Prop := r = r' ∧ PAIR n s' c' ∧ RQ c c'
theorem KPs (h : MS n s t K Sh V W) : ∀ u, u ∈ K → KP s u := fun u hu => by
  obtain ⟨i, hi, rfl⟩ := List.mem_iff_getElem.mp hu
  exact (h.2.2.1.1.2.2 i K[i] (List.getElem?_eq_getElem hi)).2
theorem fnd_b (hM : MS n s t K Sh V W) (hD : DKc A c s t K Sh) (hn : n ≤ 512) (hf : 0 ≤ f ∧ f < 6) : 0 ≤ aI c 198 f ∧ aI c 198 f ≤ 600 := by
  rw [hD.2.1.2.1.2 f hf.1 hf.2]
  have := hM.2.1.2 f hf.1 hf.2
  omega
/-- a finding, on both sides -/
theorem ref_pair (hM : MS n s t K Sh V W) (hD : DKc A c s t K Sh ∧ WKD A c s V ∧ DLK A c s t W) (hf : 0 ≤ f ∧ f < 6) : PAIR (n + 1) (mtU s f) (refC c f) ∧ RQ c (refC c f) := by
  obtain ⟨d1, d2, d3⟩ := hD
  have hX := d1.1.1.1
  have hT := hM.1.1
  have hM' := MS_mt hM hf
  have hx := refC_x (f := f) hX
  have sx : SX [0] [1] s (mtU s f) := SX.eq (ys := [0]) (fs := [1]) (eqx_ua (eqx_us eqx.rf (by decide)) (by decide)) (by decide) (by decide)
  have np : NPY fnY [198] := ⟨fun y => ⟨by unfold fnY; simp, by unfold fnY; simp⟩, ⟨by decide, by decide⟩, by decide, by decide, by decide, by decide⟩
  have row : ∀ g, g ≠ 1 → (mtU s f).2 g = s.2 g := fun g hg => by
    funext i
    show (if g = 1 ∧ i = f then _ else s.2 g i) = s.2 g i
    rw [if_neg (fun q => hg q.1)]
  have r1 := R1_sx (d1.1.ref (f := f) hT.1) hT.1 hM'.1.1.1 hT.2.1 hM.1.2.1 sx (by decide) (by decide)
  have b0 := d1.2.1.1.x hX hx (by decide) (by decide)
  have b1 : BXc A (refC c f) (mtU s f) := ⟨b0.1, fun i i0 i8 => by rw [row 72 (by decide)]; exact b0.2 i i0 i8⟩
  exact ⟨⟨A, t, K, Sh, V, W, hM', ⟨r1, ⟨b1, d1.2.1.2.1.ref hf, d1.2.1.2.2.x hX hx (by decide) (fun a ha => by simp at ha; omega)⟩, d1.2.2.1.x hX EXT.rf hT.1.2.2.2.2.1.1 (KPs hM) hx (by decide) (by decide), d1.2.2.2.x hX hx (by decide) (fun a ha => by simp at ha; omega)⟩, WKD_x d2 hX hx np (fun y => by unfold fnY; simp) (w183 hX hx (by decide) (by decide)) EXT.rf ⟨rfl, rfl, rfl⟩ (fun b _ => by rw [row 9 (by decide)]) (Int.le_refl _), DLK_x d3 hX d1.1.1.2.1 hx RMk.rf ⟨fun k => by unfold fnY; simp, fun k => by unfold fnY; simp, by decide⟩ (mm hM) rfl rfl (fun b _ _ => by rw [row 42 (by decide)])⟩, RQ_cx hX hx np (k := 0) (m := 0) RMk.rf (by decide) (by decide)⟩
theorem ps_take (h : PAIR n s c) (hd : 400 ≤ d) (hd2 : 400 ≤ d2) : cm iv L h0 d 108 [vr 307] s (qi fun r s' => ∀ h0', ck iv L h0' d2 14 [vr 64] c (qi (PQ (n + 1) c r s'))) := by
  obtain ⟨A, t, K, Sh, V, W, hM, hD⟩ := h
  have hT := hM.1.1
  refine take_ok hT.1 hT.2.1 hT.2.2 hM.2.2.1.1 (by omega) (fun hn h0' => ?_) (fun hg w hw h0' => ?_)
  · exact take_c hD.1.1 hT hM.1.2.1 hD.1.2.2.1 (KPs hM) (by omega) (fun _ => ⟨rfl, PAIR_up ⟨A, t, K, Sh, V, W, hM, hD⟩ (by omega), RQ.rf⟩) (fun q => absurd q hn)
  · refine take_c hD.1.1 hT hM.1.2.1 hD.1.2.2.1 (KPs hM) (by omega) (fun q => absurd hg q) (fun _ e ha => ?_)
    have := act_pair hM hD hw (take_aft hT hg) (take_ac hM.1.2.2.1) (fun x hx => take_in hT hx) ha
    exact ⟨rfl, PAIR_up this.1 (by omega), this.2⟩
theorem ps_write (h : PAIR n s c) (hd : 400 ≤ d) (hd2 : 400 ≤ d2) : cm iv L h0 d 110 [vr 307, vi z] s (qi fun r s' => ∀ h0', ck iv L h0' d2 16 [vr 64, vi z] c (qi (PQ (n + 1) c r s'))) := by
  obtain ⟨A, t, K, Sh, V, W, hM, hD⟩ := h
  have hT := hM.1.1
  refine write_ok hT.1 hT.2.1 hT.2.2 hM.2.2.1.1 (by omega) (fun hn h0' => ?_) (fun hg w hw h0' => ?_)
  · exact write_c hD.1.1 hT hM.1.2.1 hD.1.2.2.1 (KPs hM) (by omega) (fun _ => ⟨rfl, PAIR_up ⟨A, t, K, Sh, V, W, hM, hD⟩ (by omega), RQ.rf⟩) (fun q => absurd q hn)
  · refine write_c hD.1.1 hT hM.1.2.1 hD.1.2.2.1 (KPs hM) (by omega) (fun q => absurd hg q) (fun _ e ha => ?_)
    have := act_pair hM hD hw (wri_aft hT hg) (write_ac hM.1.2.2.1 (mm hM _ hT.2.2) hg) (fun x hx => Or.inl hx) ha
    exact ⟨rfl, PAIR_up this.1 (by omega), this.2⟩
theorem ps_rename (h : PAIR n s c) (hd : 400 ≤ d) (hd2 : 400 ≤ d2) : cm iv L h0 d 111 [vr 307, vi z] s (qi fun r s' => ∀ h0', ck iv L h0' d2 17 [vr 64, vi z] c (qi (PQ (n + 1) c r s'))) := by
  obtain ⟨A, t, K, Sh, V, W, hM, hD⟩ := h
  have hT := hM.1.1
  refine rename_ok hT.1 hT.2.1 hT.2.2 hM.2.2.1.1 (by omega) (fun w hn hx h0' => ?_) (fun hg w hw h0' => ?_)
  · exact rename_c hD.1.1 hT hM.1.2.1 hD.1.2.2.1 (KPs hM) (by omega) (fun _ => ⟨rfl, PAIR_up (PAIR_sx ⟨A, t, K, Sh, V, W, hM, hD⟩ hx) (by omega), RQ.rf⟩) (fun q => absurd q hn)
  · refine rename_c hD.1.1 hT hM.1.2.1 hD.1.2.2.1 (KPs hM) (by omega) (fun q => absurd hg q) (fun _ e ha => ?_)
    have := act_pair hM hD hw (ren_aft hT hg) (rename_ac hM.1.2.2.1 hT hg) (fun x hx => Or.inl hx) ha
    exact ⟨rfl, PAIR_up this.1 (by omega), this.2⟩
theorem ps_move (h : PAIR n s c) (hd : 400 ≤ d) (hd2 : 400 ≤ d2) : cm iv L h0 d 112 [vr 307, vi z] s (qi fun r s' => ∀ h0', ck iv L h0' d2 18 [vr 64, vi z] c (qi (PQ (n + 1) c r s'))) := by
  obtain ⟨A, t, K, Sh, V, W, hM, hD⟩ := h
  have hT := hM.1.1
  refine move_ok hT.1 hT.2.1 hT.2.2 hM.2.2.1.1 (by omega) (fun w hn hx h0' => ?_) (fun hg w hw h0' => ?_)
  · exact move_c hD.1.1 hT hM.1.2.1 hD.1.2.2.1 (KPs hM) (by omega) (fun _ => ⟨rfl, PAIR_up (PAIR_sx ⟨A, t, K, Sh, V, W, hM, hD⟩ hx) (by omega), RQ.rf⟩) (fun q => absurd q hn)
  · refine move_c hD.1.1 hT hM.1.2.1 hD.1.2.2.1 (KPs hM) (by omega) (fun q => absurd hg q) (fun _ e ha => ?_)
    have := act_pair hM hD hw (mv_aft hT hg) (move_ac hM.1.2.2.1) (fun x hx => move_in hT hx) ha
    exact ⟨rfl, PAIR_up this.1 (by omega), this.2⟩
theorem putA_of (hg : putOk s t so z k) : putA s t so z k = s.1 8 := by
  obtain ⟨⟨g1, g2, g3, g4⟩, g5, g6, g7⟩ := hg
  unfold putA
  rw [if_pos ⟨g1, fun q => q.2 (g2 q.1), fun q => q.2 (g3 q.1), fun q => q.2 (g4 q.1)⟩, if_neg g5, if_neg (by omega)]
theorem ps_put (h : PAIR n s c) (hd : 400 ≤ d) (hd2 : 400 ≤ d2) : cm iv L h0 d 107 [vr 307, vi so, vi z, vi k] s (qi fun r s' => ∀ h0', ck iv L h0' d2 13 [vr 64, vi so, vi z, vi k] c (qi (PQ (n + 1) c r s'))) := by
  obtain ⟨A, t, K, Sh, V, W, hM, hD⟩ := h
  have hT := hM.1.1
  refine put_ok hT.1 hT.2.1 hM.1.2.1 hT.2.2 hM.2.2.1.1 (by omega) (fun w hn hx h0' => ?_) (fun hg w hw h0' => ?_)
  · exact put_c hD.1.1 hT hM.1.2.1 hD.1.2.2.1 (KPs hM) (by omega) (fun _ => ⟨rfl, PAIR_up (PAIR_sx ⟨A, t, K, Sh, V, W, hM, hD⟩ hx) (by omega), RQ.rf⟩) (fun q => absurd q hn)
  · refine put_c hD.1.1 hT hM.1.2.1 hD.1.2.2.1 (KPs hM) (by omega) (fun q => absurd hg q) (fun _ e ha => ?_)
    have := act_pair hM hD hw (put_aft hT hg) (put_ac hM.1.2.2.1) (fun x hx => put_in hT hg hx) ha
    exact ⟨putA_of hg, PAIR_up this.1 (by omega), this.2⟩
theorem ps_unwrap (h : PAIR n s c) (hn : n ≤ 512) (hd : 400 ≤ d) (hd2 : 400 ≤ d2) : cm iv L h0 d 109 [vr 307, vi i] s (qi fun r s' => ∀ h0', ck iv L h0' d2 15 [vr 64, vi i] c (qi (PQ (n + 1) c r s'))) := by
  obtain ⟨A, t, K, Sh, V, W, hM, hD⟩ := h
  have hT := hM.1.1
  have hr := fnd_b (f := 2) hM hD.1 hn (by decide)
  refine unwrap_ok hT.1 hT.2.1 hM.2.1.2 (by omega) hT.2.2 hM.2.2.1.1 (by omega) (fun hn h0' => ?_) (fun hg w hw h0' => ?_)
  · refine unwrap_c hD.1.1 hT hM.1.2.1 hD.1.2.2.1 (KPs hM) (by omega) hr (fun hp => ?_) (fun hp _ => ?_) (fun q => absurd q hn)
    · refine ⟨?_, ?_, RQ.rf⟩
      · unfold uwA; rw [if_pos hp]
      · unfold uwN; rw [if_pos hp]
        exact PAIR_up ⟨A, t, K, Sh, V, W, hM, hD⟩ (by omega)
    · have := ref_pair (f := 2) hM hD (by decide)
      refine ⟨?_, ?_, this.2⟩
      · unfold uwA; rw [if_neg hp, if_neg (show ¬ (0 ≤ i ∧ i < pO (s.2 9 (s.1 16))) from hn)]
      · unfold uwN; rw [if_neg hp]
        exact this.1
  · refine unwrap_c hD.1.1 hT hM.1.2.1 hD.1.2.2.1 (KPs hM) (by omega) hr (fun hp => ?_) (fun hp q => absurd hg q) (fun _ e ha => ?_)
    · exfalso
      have := hg.2
      have := hg.1
      omega
    · have := act_pair hM hD hw (unwrap_aft hT hg) (unwrap_ac hM.1.2.2.1) (fun x hx => unwrap_in hT hg hx) ha
      refine ⟨?_, PAIR_up this.1 (by omega), this.2⟩
      unfold uwA
      rw [if_neg (by have := hg.1; have := hg.2; omega), if_pos (show 0 ≤ i ∧ i < pO (s.2 9 (s.1 16)) from hg)]
end
