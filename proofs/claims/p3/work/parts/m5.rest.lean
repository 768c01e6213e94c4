/-! Steps of the pair: seen, offers, kind. -/
section
variable {iv : List (Int × Int)} {L : Nat} {h0 : MH} {A A' : Int → Nat} {c e : SC} {s w v u : SM} {t t' : Term} {n : Int} {K K' : List Snap} {Sh : Int → Option Snap} {V : Term} {W : List (Int × Int)} {ys : List (Nat × Nat)} {rs : List Nat} {d d2 : Nat} {z a b i j k q x f r : Int}
theorem glm_pair (hM : MS n s t K Sh V W) (hD : DKc A c s t K Sh ∧ WKD A c s V ∧ DLK A c s t W) (hx : SX [] [] s w) (hw : WX 188 c e) : PAIR n w e ∧ RQ c e := by
  obtain ⟨d1, d2, d3⟩ := id hD
  have hX := d1.1.1.1
  have hT := hM.1.1
  have hc := hw.cx hX.wt.2.2.2.2.2.2.2.2 (by decide)
  have hr : RMk 0 0 c e := ⟨by have := hw.1.1; omega, by have := hw.1.2; omega⟩
  have hM' := MS_x hM hx (by decide) (by decide)
  have r1 : R1 A e s t := d1.1.x hT.1 hc (by decide) (by decide) (by decide) (by decide)
  have r1 := R1_sx r1 hT.1 hM'.1.1.1 hT.2.1 hM.1.2.1 hx (by decide) (by decide)
  have sb := SBX_x hx (by decide) (by decide)
  have np : NPY [(12, 1), (12, 3), (12, 6)] [188 + 1, 188 + 2, 188 + 3, 188 + 4] := ⟨fun y => ⟨by simp, by simp⟩, ⟨by decide, by decide⟩, by decide, by decide, by decide, by decide⟩
  have dk : DKc A e w t K Sh := ⟨r1, ⟨(d1.2.1.1.x hX hc (by decide) (by decide)).sb sb, (d1.2.1.2.1.x hX hc (by decide) (by decide)).sb sb, d1.2.1.2.2.x hX hc (by decide) (fun a ha => by simp at ha; omega)⟩, d1.2.2.1.x hX EXT.rf hT.1.2.2.2.2.1.1 (KPs hM) hc (by decide) (by decide), d1.2.2.2.x hX hc (by decide) (fun a ha => by simp at ha; omega)⟩
  obtain ⟨-, -, w3, w4, w5⟩ := hw
  exact ⟨⟨A, t, K, Sh, V, W, hM', dk, WKD_x d2 hX hc np (fun y => by simp) ⟨⟨w3 183 1 (by omega), w3 183 3 (by omega)⟩, (w5 184 (by omega)).2, (w5 185 (by omega)).1⟩ EXT.rf ⟨hx.1 56 (by decide) (by decide), hx.1 60 (by decide) (by decide), hx.1 61 (by decide) (by decide)⟩ (fun b hb => hx.nod (Or.inl rfl) (by decide) (by have := hT.1.2.2.2.2.1; omega)) (by rw [hx.1 8 (by decide) (by decide)]; exact Int.le_refl _), DLK_x d3 hX d1.1.1.2.1 hc hr ⟨fun k => by simp, fun k => by simp, by decide⟩ (mm hM) (hx.1 8 (by decide) (by decide)) (hx.1 35 (by decide) (by decide)) (fun b _ _ => by rw [hx.row (f := 42) (by decide) (by decide) (by decide)])⟩, RQ_cx hX hc np hr (by decide) (by decide)⟩
theorem ps_seen (h : PAIR n s c) (hdd : 410 ≤ d) (hd2 : 400 ≤ d2) : cm iv L h0 d 150 [vr 307, vi k, vi x, vi i] s (qi fun r s' => ∀ h0', ck iv L h0' d2 30 [vr 64, vi k, vi x, vi i] c (qi (PQ (n + 1) c r s'))) := by
  have hP := h
  obtain ⟨d2, rfl⟩ : ∃ k, d2 = k + 6 := ⟨d2 - 6, by omega⟩
  obtain ⟨A, t, K, Sh, V, W, hM, hD⟩ := h
  have hT := hM.1.1
  obtain ⟨p, q, hp, ⟨v1, v2⟩, -⟩ := hD.2.1
  refine seen_ok hT.1.2.2.2.2.1.2 hM.2.2.2.2.1.1 (by omega) (fun g h0' => ?_) (fun g hn h0' => ?_) (fun w g hv hw h0' => ?_)
  · exact dseen_c (V := V) hD.1.1 hT.1 hp (fun g2 => by
      by_cases hv : hasV s
      · obtain ⟨g1, g2, g3⟩ := v1 hv
        exact ⟨g2.2.1, g3⟩
      · exact absurd (v2 hv) g2) (fun _ => same_pair hP SX.rf) (fun _ q => absurd q g) (fun _ q => absurd q g)
  · exact dseen_c (V := V) hD.1.1 hT.1 hp (fun g2 => absurd (v2 hn) g2) (fun q => absurd g q) (fun _ _ => same_pair hP SX.rf) (fun q => absurd (v2 hn) q)
  · obtain ⟨g1, g2, g3⟩ := v1 hv
    refine dseen_c (V := V) hD.1.1 hT.1 hp (fun _ => ⟨g2.2.1, g3⟩) (fun q => absurd g q) (fun q => absurd q g1) (fun _ _ e he => ?_)
    have := glm_pair hM hD (SX.eq hw (by decide) (by decide)) he
    exact ⟨rfl, PAIR_up this.1 (by omega), this.2⟩
theorem of_pair (hM : MS n s t K Sh V W) (hD : DKc A c s t K Sh ∧ WKD A c s V ∧ DLK A c s t W) (hx : SX [] [] s w) (ho : OFI A c e s t) : PAIR n w e ∧ RQ c e := by
  obtain ⟨d1, d2, d3⟩ := id hD
  have hX := d1.1.1.1
  have hT := hM.1.1
  obtain ⟨r1, tr, hc, hr⟩ := ho
  have hM' := MS_x hM hx (by decide) (by decide)
  have r1 := R1_sx r1 hT.1 hM'.1.1.1 hT.2.1 hM.1.2.1 hx (by decide) (by decide)
  have sb := SBX_x hx (by decide) (by decide)
  have np : NPY trY trR := ⟨fun y => ⟨by unfold trY; simp, by unfold trY; simp⟩, ⟨by decide, by decide⟩, by decide, by decide, by decide, by decide⟩
  exact oth_pair hM hD hM' hc hr hx np ⟨fun y => by unfold trY; simp, ⟨by decide, by decide⟩, fun k => by unfold trY; simp, fun k => by unfold trY; simp, by decide⟩ ⟨by decide, by decide⟩ (by decide) (by decide) ⟨r1, ⟨(d1.2.1.1.x hX hc (by decide) (by decide)).sb sb, (d1.2.1.2.1.x hX hc (by decide) (by decide)).sb sb, tr⟩, d1.2.2.1.x hX EXT.rf hT.1.2.2.2.2.1.1 (KPs hM) hc (by decide) (by decide), d1.2.2.2.x hX hc (by decide) (fun a ha => by unfold trR at ha; simp at ha; omega)⟩
theorem ps_offers (h : PAIR n s c) (hdd : 410 ≤ d) (hd2 : 400 ≤ d2) : cm iv L h0 d 119 [vr 307] s (qi fun r s' => ∀ h0', ck iv L h0' d2 22 [vr 64] c (qi (fun _ e => PAIR (n + 1) s' e ∧ RQ c e))) := by
  have hP := h
  obtain ⟨A, t, K, Sh, V, W, hM, hD⟩ := h
  have hT := hM.1.1
  refine offers_ok hT hM.1.2.1 (by omega) (fun w hw h0' => offers_c hD.1.1 hD.1.2.1.2.2 hT hM.1.2.1 (by omega) (fun r e he => ?_))
  have := of_pair hM hD hw he
  exact ⟨PAIR_up this.1 (by omega), this.2⟩
theorem ps_offer (h : PAIR n s c) (hdd : 410 ≤ d) (hd2 : 400 ≤ d2) : cm iv L h0 d 120 [vr 307, vi i, vi k] s (qi fun r s' => ∀ h0', ck iv L h0' d2 23 [vr 64, vi i, vi k] c (qi (fun _ e => PAIR (n + 1) s' e ∧ RQ c e))) := by
  have hP := h
  obtain ⟨A, t, K, Sh, V, W, hM, hD⟩ := h
  have hT := hM.1.1
  refine offer2_ok hT hM.1.2.1 (by omega) (fun w hw h0' => offer2_c hD.1.1 hD.1.2.1.2.2 hT hM.1.2.1 (by omega) (fun r e he => ?_))
  have := of_pair hM hD hw he
  exact ⟨PAIR_up this.1 (by omega), this.2⟩
/-- a new kind -/
theorem knd_pair (hM : MS n s t K Sh V W) (hD : DKc A c s t K Sh ∧ WKD A c s V ∧ DLK A c s t W) (hn : s.1 2 < 40) (hi : i = 3 ∨ i = 4) (ha : 0 ≤ a ∧ a < s.1 2) (hb : 0 ≤ b ∧ b < s.1 2) (hz : 1 + s.2 7 a + s.2 7 b ≤ 40) : PAIR n (knS s i a b) (knC c (s.1 2) i a b (1 + s.2 7 a + s.2 7 b)) ∧ RQ c (knC c (s.1 2) i a b (1 + s.2 7 a + s.2 7 b)) := by
  obtain ⟨d1, d2, d3⟩ := id hD
  have hX := d1.1.1.1
  have hT := hM.1.1
  have h8 := hT.1.2.2.2.2.1
  obtain ⟨r1, k1, s1⟩ := d1.1.kind hT.1 hT.2.1 hM.1.2.1 hn hi ha hb hz
  have hc := knC_x (n := s.1 2) (i := i) (a := a) (b := b) (z := 1 + s.2 7 a + s.2 7 b) hX
  have hr : RMk 0 0 c (knC c (s.1 2) i a b (1 + s.2 7 a + s.2 7 b)) := RMk.rf
  have e0 : eqx [2] [4, 5, 6, 7] s (knS s i a b) := eqx_us (eqx_ua (eqx_ua (eqx_ua (eqx_ua eqx.rf (by decide)) (by decide)) (by decide)) (by decide)) (by decide)
  have e2 : (knS s i a b).1 2 = s.1 2 + 1 := rfl
  generalize knS s i a b = w at r1 k1 s1 e0 e2 ⊢
  generalize knC c (s.1 2) i a b (1 + s.2 7 a + s.2 7 b) = e at r1 hc hr ⊢
  have sx : SX [2] [4, 5, 6, 7] s w := SX.eq e0 (by decide) (by decide)
  have e8 : w.1 8 = s.1 8 := e0.1 8 (by decide)
  have hN : NB w := fun x x0 x1 => by
    obtain ⟨g1, g2, g3, g4⟩ := hT.2.1 x x0 (by omega)
    rw [e0.2 9 (by decide), e0.2 10 (by decide), e0.2 11 (by decide), e2]
    exact ⟨g1, g2, g3, fun q => by have := g4 q; omega⟩
  have hA : AFT w t := ⟨s1, hN, by rw [e0.1 16 (by decide)]; exact hT.2.2⟩
  have hS : ShL w Sh := fun p p0 p6 => by
    obtain ⟨g1, g2⟩ := hM.2.2.1.2 p p0 p6
    unfold SE
    rw [e0.2 37 (by decide), e0.2 38 (by decide), e0.2 39 (by decide), e0.2 40 (by decide), e2]
    refine ⟨g1, fun u hu => ?_⟩
    obtain ⟨f1, f2, f3⟩ := g2 u hu
    exact ⟨f1, f2, fun k x hk => ⟨(f3 k x hk).1, bearOk_up (f3 k x hk).2 (by omega)⟩⟩
  have hM' : MS n w t K Sh V W := MS_g hM sx (by decide) (by decide) hA k1 (BX_x hM.2.1.1 sx (by decide) (by decide) (by omega)) (hM.2.1.2.x sx (by decide)) hS
  have sb := SBX_x sx (by decide) (by decide)
  have np : NPY kiY kiR := ⟨fun y => ⟨by unfold kiY; simp, by unfold kiY; simp⟩, ⟨by decide, by decide⟩, by decide, by decide, by decide, by decide⟩
  exact oth_pair hM hD hM' hc hr sx np ⟨fun y => by unfold kiY; simp, ⟨by decide, by decide⟩, fun k => by unfold kiY; simp, fun k => by unfold kiY; simp, by decide⟩ ⟨by decide, by decide⟩ (by decide) (by decide) ⟨r1, ⟨(d1.2.1.1.x hX hc (by decide) (by decide)).sb sb, (d1.2.1.2.1.x hX hc (by decide) (by decide)).sb sb, d1.2.1.2.2.x hX hc (by decide) (fun a ha => by unfold kiR at ha; simp at ha; omega)⟩, d1.2.2.1.x hX EXT.rf h8.1 (KPs hM) hc (by decide) (by decide), d1.2.2.2.x hX hc (by decide) (fun a ha => by unfold kiR at ha; simp at ha; omega)⟩
theorem ps_kind (h : PAIR n s c) (hdd : 410 ≤ d) (hd2 : 400 ≤ d2) : cm iv L h0 d 68 [vr 307, vi z, vi a, vi b] s (qi fun r s' => ∀ h0', ck iv L h0' d2 2 [vr 64, vi z, vi a, vi b] c (qi (PQ (n + 1) c r s'))) := by
  have hP := h
  obtain ⟨d, rfl⟩ : ∃ k, d = k + 2 := ⟨d - 2, by omega⟩
  obtain ⟨A, t, K, Sh, V, W, hM, hD⟩ := h
  have hT := hM.1.1
  have hn := hM.1.2.1.1
  refine kind_ok hM.1.2.1 (fun hb h0' => ?_) (fun hb h0' => ?_)
  · exact kind_c hD.1.1.1.1 hD.1.1.2.2.1 hM.1.2.1 (by omega) (fun _ => same_pair hP SX.rf) (fun q => absurd hb q) (fun q => absurd hb q)
  · refine kind_c hD.1.1.1.1 hD.1.1.2.2.1 hM.1.2.1 (by omega) (fun q => absurd q hb) (fun _ g => ?_) (fun _ g1 g2 => ?_)
    · have : kndU s z a b = s := by
        unfold kndU
        by_cases q : 0 ≤ kfs s (kis z) a b
        · rw [if_pos q]
        · rw [if_neg q, if_pos (g.resolve_left q)]
      rw [this]
      exact same_pair hP SX.rf
    · have e1 : kndU s z a b = knS s (kis z) a b := by
        unfold kndU
        rw [if_neg g1, if_neg (by omega)]
        rfl
      have e2 : kndA s z a b = s.1 2 := by
        unfold kndA
        rw [if_neg g1, if_neg (by omega)]
      rw [e1, e2]
      unfold kbad at hb
      have := knd_pair (i := kis z) hM hD g2 (by unfold kis; split <;> omega) (a := a) (b := b) (by omega) (by omega) (by omega)
      exact ⟨rfl, PAIR_up this.1 (by omega), this.2⟩
end
