/-! Steps of the pair: work, resume. -/
section
variable {iv : List (Int × Int)} {L : Nat} {h0 : MH} {A A' : Int → Nat} {c e : SC} {s s1 w v σ : SM} {t t' : Term} {n n' : Int} {K K' : List Snap} {Sh Sh' : Int → Option Snap} {V : Term} {W : List (Int × Int)} {ey ef : List Nat} {ys : List (Nat × Nat)} {rs : List Nat} {d d2 p q r : Nat} {b i so z k f hf : Int} {R : RS}
theorem dgr_of (hM : MS n s t K Sh V W) (hD : DKc A c s t K Sh) (hz : 0 ≤ z ∧ z ≤ 300) (hh : hf = 0 ∨ hf = 1) (hσ : BGW s t z hf σ) : DGR A c σ t ∧ (jdg σ t = jdg s t) ∧ σ.2 9 = s.2 9 ∧ σ.1 8 = s.1 8 := by
  have hT := hM.1.1
  obtain ⟨⟨x1, x2, x3⟩, -⟩ := BGW_X hT hM.2.2.2.1.1 hz hh hσ
  obtain ⟨b1, b2, b3, b4, -⟩ := hσ
  have ej : jdg σ t = jdg s t := jdg_x hT.1 x1 hT.2.1 hM.1.2.1 b2 (by decide) (by decide)
  have e9 : σ.2 9 = s.2 9 := b1.2 9 (by decide)
  refine ⟨⟨⟨R1_sx hD.1 hT.1 x1 hT.2.1 hM.1.2.1 b2 (by decide) (by decide), x1, x2, x3⟩, fun b hb => ?_⟩, ej, e9, b1.1 8 (by decide)⟩
  rw [ej, b4 b hb, e9]
  exact ⟨rfl, fun h => jdg_one hT.1 h⟩
theorem jdg_nn (hD : R1 A c s t) : ∀ x, x ∈ fl t → 0 ≤ (jdg s t).2.2 x ∧ fI c (A x) 10 = (jdg s t).2.2 x := fun x hx => by
  obtain ⟨-, -, -, -, -, hJx⟩ := hD
  obtain ⟨-, -, g1, g2, g3⟩ := hJx x hx
  exact ⟨g2, g1⟩
theorem wq_w : NPY [] [] := NPY_0
/-- behind a working, on both sides -/
theorem wk_pair (hM : MS n s t K Sh V W) (hD : DKc A c s t K Sh ∧ WKD A c s V ∧ DLK A c s t W) (hz : 0 ≤ z ∧ z ≤ 300) (hh : hf = 0 ∨ hf = 1) (hσ : BGW s t z hf σ) (hR : R.2.1 = 0 ∨ 2 ≤ R.2.1) (hw : WDN s t R hf v) (hk : WKP A c e σ t p q R r) : PAIR n v e ∧ RQ c e := by
  obtain ⟨d1, d2, d3⟩ := hD
  have hX := d1.1.1.1
  have h353 := hX.2.2.1
  have hT := hM.1.1
  obtain ⟨hG, ej, e9, e8⟩ := dgr_of hM d1 hz hh hσ
  have hj := jdg_nn d1.1
  have hM' := MS_wdn hM hw hR (fun x hx => (hj x hx).1)
  obtain ⟨⟨k1, k2⟩, ⟨k3, k4⟩, ⟨k5, k6, k7, k8⟩, ⟨k9, k10⟩, k11, k12, k13⟩ := hk
  obtain ⟨wx, ⟨w1, w2, w3, w4, w5⟩, ⟨w6, w7⟩, -⟩ := id hw
  have b2 := hσ.2.1
  have hB := hT.1.2.2.2.2.1
  have xσ : SX [35, 52, 54, 55, 56, 57, 58, 59, 60, 61, 62, 63] [42, 46, 47, 48, 49, 50, 51, 53, 64, 65] σ v := (b2.sy.up (by decide) (by decide)).tr wx
  have v8 : v.1 8 = s.1 8 := wx.1 8 (by decide) (by decide)
  have v9 : ∀ b : Nat, (b : Int) < s.1 8 → v.2 9 b = s.2 9 b := fun b hb => wx.nod (Or.inl rfl) (by decide) (by omega)
  have KIσ : KIs σ := KIs_x hM.1.2.1 b2 (by decide) (by decide)
  have r1 : R1 A e v t := R1_sx k3 hG.1.2.1 hM'.1.1.1 hG.1.2.2.1 KIσ xσ (by decide) (by decide)
  have sb := SBX_x wx (by decide) (by decide)
  have dk : DKc A e v t K Sh := ⟨r1, ⟨(d1.2.1.1.x hX k1 (by decide) (by decide)).sb sb, (d1.2.1.2.1.x hX k1 (by decide) (by decide)).sb sb, d1.2.1.2.2.x hX k1 (by decide) (fun a ha => by
    have : wqR.all (fun a => decide (a < 194)) = true := by decide
    exact Or.inl (of_decide_eq_true (List.all_eq_true.mp this a ha)))⟩, d1.2.2.1.x hX EXT.rf hB.1 (KPs hM) k1 (by decide) (by decide), d1.2.2.2.x hX k1 (by decide) (fun a ha => by
    have : wqR.all (fun a => decide (a < 194)) = true := by decide
    have := of_decide_eq_true (List.all_eq_true.mp this a ha)
    omega)⟩
  have hv : hasV v ↔ R.2.1 = 0 := by
    unfold hasV
    rw [w5]
    unfold outE
    by_cases g : R.2.1 = 0
    · rw [if_pos g]
      refine ⟨fun _ => g, fun _ => ?_⟩
      cases hsL R.2.2.2 <;> simp
    · rw [if_neg g]
      omega
  have wk : WKD A e v R.2.2.2 := ⟨q, p, k4, ⟨fun h => by
    have g := hv.mp h
    obtain ⟨g1, g2, g3⟩ := k9 g
    rw [k7, wrt_cg (s := σ) g2.2.1 (fun b hb => by rw [v9 b (by omega), e9])]
    exact ⟨g1, ⟨g2.1, ⟨g2.2.1.1, VB_up (by omega) _ _ (Nat.lt_succ_self _) g2.2.1.2⟩, g2.2.2⟩, g3⟩, fun h => by rw [k7]; exact k10 (fun g => h (hv.mpr g))⟩, ⟨by rw [k5, w3], by rw [k6, w4]⟩, by
    rw [k8, w5, if_neg (by unfold outE; split; split <;> decide; omega)]⟩
  have lt : ∀ b, 0 ≤ b → b < s.1 8 → A b < nxt c ∧ kl c (A b) = 5 ∧ (A b = 73 ∨ 353 ≤ A b) := fun b b0 b1 => by
    obtain ⟨⟨n1, -⟩, n9, n10⟩ := d1.1.1.2.1.2 b b0 b1
    exact ⟨by omega, n1, n10⟩
  have y12 : ∀ k : Nat, (k, 12) ∉ wqY := fun k => by unfold wqY wzY wkY nqY; simp
  obtain ⟨l1, l2, l3, l4⟩ := d3
  have hQ : QN A e v := fun a ha hka => by
    by_cases z : a < nxt c
    · have k5' : kl c a = 5 := by rw [← k1.k z]; exact hka
      rcases l2 a z k5' with ⟨z1, z2⟩ | ⟨b, z1, z2, z3⟩
      · by_cases zn : ∃ x, x ∈ fl t ∧ a = A x
        · obtain ⟨x, y1, y2⟩ := zn
          have := mm hM x y1
          exact Or.inr ⟨x, this.1, by omega, y2⟩
        · exact Or.inl ⟨(k1.r z (y12 _)).trans z1, (k13 a z (fun x y1 y2 => zn ⟨x, y1, y2⟩)).trans z2⟩
      · exact Or.inr ⟨b, z1, by omega, z3⟩
    · exact absurd hka (k2.2.2.2 a (by omega) ha)
  have lk : DLK A e v t (wrL s t) := by
    refine ⟨⟨fun _ => w1, fun _ => k11⟩, hQ, fun b hb => ?_, fun _ => ⟨fun b b0 b1 hb => ?_, fun b hb => ?_⟩⟩
    · have := mm hM b hb
      rw [k1.r (lt b this.1 this.2).1 (y12 _)]
      exact l3 b hb
    · rw [w6 b b0 (by omega)] at hb
      omega
    · rw [k12 b hb, ej]
      unfold wrL
      exact (thW_map.1 hb).symm
  exact ⟨⟨A, t, K, Sh, R.2.2.2, wrL s t, hM', dk, wk, lk⟩, RQ_mp k2⟩
theorem ps_work (h : PAIR n s c) (hdd : 400 ≤ d) (hd2 : 400 ≤ d2) : cm iv L h0 d 136 [vr 307, vi z] s (qi fun r s' => ∀ h0', ck iv L h0' d2 24 [vr 64, vi z] c (qi (PQ (n + 1) c r s'))) := by
  obtain ⟨A, t, K, Sh, V, W, hM, hD⟩ := h
  have hT := hM.1.1
  obtain ⟨p, q, hp, -⟩ := hD.2.1
  obtain ⟨d2, rfl⟩ : ∃ k, d2 = k + 1 := ⟨d2 - 1, by omega⟩
  refine work_ok hT hM.1.2.1 hM.2.2.2.1.1 (by omega) (fun hz h0' => ?_) (fun σ v hz hσ hw h0' => ?_)
  · exact dwork_no hz ⟨rfl, PAIR_up ⟨A, t, K, Sh, V, W, hM, hD⟩ (by omega), RQ.rf⟩
  · obtain ⟨hG, ej, e9, e8⟩ := dgr_of hM hD.1 hz (Or.inl rfl) hσ
    have e15 : s.1 15 = hd t := hT.1.2.2.2.2.2.1.symm
    rw [e15] at hw ⊢
    have hTσ := hG.1.2.1
    have top : hd t ∈ fl t := by
      have := top_mem hT.1
      rwa [e15] at this
    have bT : ∀ x, bds σ (hd t) x = -9 := fun x => by
      show bnd (σ.2 9) (σ.2 10) (σ.2 12) (σ.2 13) 70 (hd t) x = -9
      unfold bnd
      rw [if_pos hTσ.2.2.2.2.2.2.1]
    have cv : cov σ (hd t) (nulE 26) := fun x _ _ hx => absurd (bT x) hx
    have hRO := evw_okw hTσ hG.1.2.2.1 hG.1.2.2.2 z 60 (hd t) (nulE 26) 0 top (nulE_is 26) (nulE_VG 26) cv hz.1
    refine dwork_c hG hp hz (by omega) (fun e r hk => ?_)
    have := wk_pair hM hD hz (Or.inl rfl) hσ (hRO.2.1.elim Or.inl (fun g => Or.inr g.1)) hw hk
    exact ⟨rfl, PAIR_up this.1 (by omega), this.2⟩
theorem ar_th (hW : wfW s W) (hD : DLK A c s t W) (h35 : s.1 35 = 0) : thn A c s t = 0 ↔ arS s t W = true := by
  obtain ⟨-, -, -, h4⟩ := hD
  have h4 := (h4 h35).2
  have key : (∀ x, x ∈ fl t → ¬ (fI c (A x) 11 ≠ -9 ∧ fI c (A x) 11 ≠ (jdg s t).2.2 x)) ↔ arS s t W = true := by
    unfold arS arP
    rw [List.all_eq_true]
    refine ⟨fun h a ha => List.all_eq_true.mpr (fun x hx => decide_eq_true (fun e => ?_)), fun h x hx q => ?_⟩
    · have g := hW a ha
      have h' := h x hx
      rw [h4 x hx, e, g.1] at h'
      rw [e]
      omega
    · rw [h4 x hx] at q
      by_cases z : ∃ a, a ∈ W ∧ a.1 = x
      · obtain ⟨a, ha, e⟩ := z
        have := of_decide_eq_true (List.all_eq_true.mp (h a ha) x hx) e.symm
        rw [← e, (hW a ha).1, e] at q
        omega
      · exact q.1 (thW_no (fun a ha e => z ⟨a, ha, e⟩))
  rw [← key]
  unfold thn
  constructor
  · intro h x hx q
    rw [if_pos (List.any_eq_true.mpr ⟨x, hx, decide_eq_true q⟩)] at h
    omega
  · intro h
    rw [if_neg]
    intro g
    obtain ⟨x, hx, q⟩ := List.any_eq_true.mp g
    exact h x hx (of_decide_eq_true q)
theorem ps_resume (h : PAIR n s c) (hdd : 400 ≤ d) (hd2 : 400 ≤ d2) : cm iv L h0 d 138 [vr 307, vi z] s (qi fun r s' => ∀ h0', ck iv L h0' d2 25 [vr 64, vi z] c (qi (PQ (n + 1) c r s'))) := by
  have hP := h
  obtain ⟨A, t, K, Sh, V, W, hM, hD⟩ := h
  have hT := hM.1.1
  have hR1 := hD.1.1
  have hV := hM.2.2.2.2.1.2
  have hWf := hM.2.2.2.2.2.2
  obtain ⟨p, q, hp, ⟨v1, v2⟩, -⟩ := hD.2.1
  obtain ⟨d2, rfl⟩ : ∃ k, d2 = k + 1 := ⟨d2 - 1, by omega⟩
  have i15 := hD.2.2.1
  refine resume_ok hT hM.1.2.1 hM.2.2.2.1.1 (by omega) hM.2.2.2.2.2.1 hV (fun hz h0' => ?_) (fun hz hq h0' => ?_) (fun w hz hq ha hw h0' => ?_) (fun σ v hz hq ha hσ hw h0' => ?_)
  · exact dres_no hz ⟨rfl, PAIR_up hP (by omega), RQ.rf⟩
  · refine dres_4 hR1 hT.1 hz ?_ ⟨rfl, PAIR_up hP (by omega), RQ.rf⟩
    by_cases g : hasV s
    · exact Or.inr (Or.inl (fun w => hq ⟨g, i15.1 w⟩))
    · exact Or.inl (v2 g)
  · refine dres_4 hR1 hT.1 hz (Or.inr (Or.inr (fun w => ?_))) ⟨rfl, PAIR_up (PAIR_sx hP hw.2.1) (by omega), RQ.rf⟩
    rw [(ar_th hWf hD.2.2 hq.2).1 w] at ha
    cases ha
  · obtain ⟨hB, hVH, hO, hN⟩ := hV hq.1 hq.2
    have hh : 1 - s.1 55 = 0 ∨ 1 - s.1 55 = 1 := by have := hB.1; omega
    obtain ⟨hG, ej, e9, e8⟩ := dgr_of hM hD.1 hz hh hσ
    have hE := hσ.1
    have e42 : σ.2 42 = s.2 42 := hE.2 42 (by decide)
    have hTσ := hG.1.2.1
    have hNσ : FN σ t := fun y hy hs => by
      rw [e42]
      exact hN y hy (by rw [← e9]; exact hs)
    have hOσ : VO σ t V := by
      show VG σ t (tgt σ t) V
      rw [tgt_e e42]
      exact VG_e e8 e9 (hE.2 10 (by decide)) (hE.2 12 (by decide)) (hE.2 13 (by decide)) hO
    have hRO := (evw_ok hTσ hG.1.2.2.1 hG.1.2.2.2 hNσ z 60).2 V 0 hVH.1 hOσ hz.1
    have hth : thn A c σ t = 0 := by
      unfold thn
      rw [ej]
      exact (ar_th hWf hD.2.2 hq.2).2 ha
    obtain ⟨g1, ⟨⟨g2, -⟩, -, g3⟩, -⟩ := v1 hq.1
    have hL : FLK A c σ t := by
      obtain ⟨-, -, l3, l4⟩ := hD.2.2
      refine ⟨fun b b0 b1 hb => ?_, fun b b0 b1 => ?_, l3⟩
      · rw [e42] at hb ⊢
        exact (l4 hq.2).1 b b0 (by omega) hb
      · rw [e42, e8]
        exact hM.2.2.2.1.1 b b0 (by omega)
    refine dres_c hG hp hz (by omega) hNσ hL (i15.2 hq.2) hth ⟨rfl, g1⟩ ⟨hVH.1, hOσ⟩ g3 (fun e r hk => ?_)
    have := wk_pair hM hD hz hh hσ (hRO.2.1.elim Or.inl (fun g => Or.inr g.1)) hw hk
    exact ⟨rfl, PAIR_up this.1 (by omega), this.2⟩
end
