/-! take(), write(), unwrap() by the desk. -/
/-- an act that was done -/
def ACT (A : Int → Nat) (c : SC) (s : SM) (t : Term) (K : List Snap) (e : SC) (s' : SM) (t' : Term) : Prop := ∃ A', R1 A' e s' t' ∧ EXT A A' (s.1 8) ∧ CX acY acR c e ∧ RMk 10 100 c e ∧ KSc A' e (push K (t, s)) ∧ fI e 64 15 = 1 ∧ NWc (nxt c) e
section
variable {iv : List (Int × Int)} {L : Nat} {h0 : MH} {A A' : Int → Nat} {c e : SC} {s s' : SM} {t : Term} {d : Nat} {P : Int → Prop} {Q : Int → Int → Prop} {K : List Snap}
theorem snR_ac : ∀ a, a ∈ snR → a ∈ acR := fun a h => by unfold acR; simp [h]
theorem cxa_k (h : CX kys snR c e) : CX acY acR c e := h.up (by decide) snR_ac
theorem cxa_b (h : CX [(8, 4)] [] c e) : CX acY acR c e := h.up (by decide) (fun _ q => by cases q)
theorem cxa_l (h : CX lys [1103] c e) : CX acY acR c e := h.up (by decide) (fun _ q => by simp at q; subst q; simp [acR])
theorem cxa_t (h : CX tyY srs c e) : CX acY acR c e := h.up (by decide) (by decide)
theorem kp_push (hKP : ∀ u, u ∈ K → KP s u) (hT : AFT s t) : ∀ u, u ∈ push K (t, s) → KP s u := fun u hu => by
  unfold push at hu
  rcases List.mem_append.mp hu with q | q
  · refine hKP u ?_
    split at q
    · exact List.mem_of_mem_tail q
    · exact q
  · have := List.mem_singleton.mp q
    subst this
    exact KP_s hT.1 hT.2.1 hT.2.2
theorem mem_rpT {x y : Int} {u : Term} (h : SHT s t) (hx : x ∈ fl t) (hy : y ∈ fl (rpT x u t)) : y ∈ fl t ∨ y ∈ fl u := by
  obtain ⟨a, z, e1, e2, -⟩ := rpT_fl h.1 h.2.2.1 hx
  rw [e2] at hy
  rw [e1]
  simp only [List.mem_append] at hy ⊢
  rcases hy with q | q | q
  · exact Or.inl (Or.inl q)
  · exact Or.inr q
  · exact Or.inl (Or.inr (Or.inr q))
theorem KIs_e (h : KIs s) (h2 : s'.1 2 = s.1 2) (h4 : s'.2 4 = s.2 4 ∧ s'.2 5 = s.2 5 ∧ s'.2 6 = s.2 6 ∧ s'.2 7 = s.2 7) : KIs s' := by
  unfold KIs at h ⊢
  rw [h2, h4.1, h4.2.1, h4.2.2.1, h4.2.2.2]
  exact h
theorem KIs_q {ys fs : List Nat} (h : KIs s) (hx : eqx ys fs s s') (hy : 2 ∉ ys) (hf : 4 ∉ fs ∧ 5 ∉ fs ∧ 6 ∉ fs ∧ 7 ∉ fs) : KIs s' := KIs_e h (hx.1 2 hy) ⟨hx.2 4 hf.1, hx.2 5 hf.2.1, hx.2 6 hf.2.2.1, hx.2 7 hf.2.2.2⟩
/-- where a node hangs there is a place -/
theorem pl_in (h : SHT s t) {x : Int} (hx : x ∈ fl t) (hu : s.2 12 x ≠ -9) : 0 ≤ s.2 13 x ∧ s.2 13 x < pO (s.2 9 (s.2 12 x)) := by
  have hn : x ≠ hd t := fun q => hu (by rw [q]; exact h.2.2.2.2.2.2.1)
  exact ((AT_mem t h.1 x hx).2.2.2 hn).2.1
/-- ahead of an act: remembered -/
theorem rem_ok {F : SC → Prop} (h1 : R1 A c s t) (hT : AFT s t) (hKS : KSc A c K) (hF : ∀ e, OP A e s (fun x => x ∈ fl t) (fun b i => b ∈ fl t ∧ 0 ≤ i ∧ i < pO (s.2 9 b)) → KSc A e (push K (t, s)) → CX kys snR c e → RMk 0 0 c e → F e) : ck iv L h0 (d + 1) 219 [vr 70] c (qv F) := by
  have hO := op_of h1 hT.1
  obtain ⟨⟨hX, hN, hH, hL⟩, ⟨hc, h8⟩, hI, hJ⟩ := h1
  refine remember_ok hX hN hH hL hT.1 hc hKS (fun e hx hr hK => hF e (op_x hO hx (by decide) (by decide) (by decide) (by decide) ?_ ?_) hK hx hr)
  · exact ⟨by decide, by decide, by decide, by decide⟩
  · exact ⟨by decide, by decide, by decide, by decide⟩
theorem R1.cur (h1 : R1 A c s t) (hT : AFT s t) : (kl c 64 = 1 ∧ kl c 70 = 8 ∧ fR c 64 1 = 70 ∧ fR c 64 0 = 65 ∧ kl c 65 = 4) ∧ fR c 70 2 = A (s.1 16) ∧ kl c (A (s.1 16)) = 5 ∧ fI c (A (s.1 16)) 1 = s.2 9 (s.1 16) ∧ fI c (A (s.1 16)) 4 = s.2 10 (s.1 16) ∧ fI c 70 4 = s.1 8 ∧ fI c 70 3 = (fl t).length := by
  have hb := hT.1.m _ hT.2.2
  obtain ⟨⟨n1, n2, n3, n4, n5, n6, n7, n8⟩, n9, n10⟩ := h1.1.2.1.2 _ hb.1 hb.2
  exact ⟨h1.1.1.dk, h1.2.1.1, n1, n5, n8, h1.2.1.2, h1.1.2.2.2.1⟩
/-- what an act answers: a birth -/
theorem ans_b {y : Int} (h : R1 A e s' t) (hy : 0 ≤ y ∧ y < s'.1 8) : kl e (A y) = 5 ∧ fI e (A y) 0 = y := by
  obtain ⟨⟨n1, n2, n3, n4, n5, n6, n7, n8⟩, n9, n10⟩ := h.1.2.1.2 y hy.1 hy.2
  exact ⟨n1, n4⟩
theorem take_c {F : Int → SC → Prop} (h1 : R1 A c s t) (hT : AFT s t) (hK : KIs s) (hKS : KSc A c K) (hKP : ∀ u, u ∈ K → KP s u) (hD : 300 ≤ d) (H1 : ¬ tkOk s → F (tkA s) c) (H2 : tkOk s → ∀ e, ACT A c s t K e (tkU s) (tkT s t) → F (tkA s) e) : ck iv L h0 d 14 [vr 64] c (qi F) := by
  obtain ⟨d, rfl⟩ : ∃ k, d = k + 1 + 1 := ⟨d - 2, by omega⟩
  obtain ⟨⟨d1, d2, d3, d4, d5⟩, e1, e2, e3, e4, e5, e6⟩ := h1.cur hT
  have hS := hT.1
  have hB := hS.2.2.2.2.1
  have hcb := hS.m _ hT.2.2
  refine C14 ?_
  rw [d3, e1, e2, e3]
  refine ⟨d1, d2, rfl, fun hs => lacks_c h1.1.1 e5 hB (by omega) (fun hb => ⟨fun _ => ⟨d1, by rw [d3]; exact d2, ?_⟩, fun q => absurd rfl q⟩) (fun hb => ⟨fun q => by omega, fun _ => ?_⟩), fun hs => ?_⟩
  rotate_left
  · have := H1 (fun q => q.2 (by omega))
    unfold tkA at this
    rw [if_neg hs, if_pos (by omega)] at this
    exact this
  · have := H1 (fun q => q.1 hs)
    unfold tkA at this
    rw [if_pos hs] at this
    exact this
  · have hok : tkOk s := ⟨hs, by omega⟩
    have hA : tkA s = s.1 8 := by unfold tkA; rw [if_neg hs, if_neg (by omega)]
    have H3 := H2 hok
    rw [hA] at H3
    rw [d3]
    refine rem_ok h1 hT hKS (fun c1 hO1 hK1 hx1 hr1 => ?_)
    have hX1 := hO1.1.1
    obtain ⟨a1, a2, a3, -⟩ := hX1.dk
    have b8 : fI c1 70 4 = s.1 8 := hO1.2.2.1.2.1
    refine ⟨a1, by rw [a3]; exact a2, ?_⟩
    rw [a3]
    refine born_c hX1 (by omega) (by omega) (fun c2 hb2 => ?_)
    have hb2' : BORN c1 c2 0 (nvl 0 (-9)) (kvl 0 (-9)) := hb2
    obtain ⟨hO2, hnew, hE2⟩ := op_born hO1 hb2' (by omega) (by omega)
    obtain ⟨a1, a2, a3, -⟩ := hO2.1.1.dk
    refine ⟨a1, by rw [a3]; exact a2, ?_⟩
    rw [a3, ← hnew, ← hE2 (s.1 16) hcb.2]
    have he := bornU_e (s := s) (so := 0) (v := -9) (k := -9)
    refine repl_c hO2 hT.2.2 ⟨hB.1, by show s.1 8 < s.1 8 + 1; omega⟩ (fun q => ?_) (fun c3 hO3 hx3 hr3 => ?_)
    · rw [he.2 12 (by decide)] at q ⊢
      rw [he.2 13 (by decide)]
      have hu := pl_in hS hT.2.2 q
      have hum : s.2 12 (s.1 16) ∈ fl t := hS.up9 hT.2.2 (fun w => q (by rw [w]; exact hS.2.2.2.2.2.2.1))
      rw [((bornU_o (s := s) (so := 0) (v := -9) (k := -9)) _ (hS.m _ hum).2).1.1]
      exact hu
    obtain ⟨a1, a2, a3, -⟩ := hO3.1.1.dk
    refine ⟨a1, by rw [a3]; exact a2, ?_⟩
    rw [a3]
    have hre := replU_e (s := bornU s 0 (-9) (-9)) (o := s.1 16) (c := s.1 8)
    have hAft := take_aft hT hok
    refine changed_ok hO3 hAft (KIs_q (KIs_q hK he (by decide) (by decide)) hre (by decide) (by decide)) (fun x hx => ?_) (fun x i hx i0 i1 => ?_) (by omega) (fun e g1 g2 g3 g4 => ?_)
    · rcases mem_rpT hS hT.2.2 hx with q | q
      · exact Or.inl q
      · right
        have := List.mem_singleton.mp q
        rw [this]; omega
    · have e9 : (replU (bornU s 0 (-9) (-9)) (s.1 16) (s.1 8)).2 9 = (bornU s 0 (-9) (-9)).2 9 := hre.2 9 (by decide)
      have i1 : i < pO ((replU (bornU s 0 (-9) (-9)) (s.1 16) (s.1 8)).2 9 x) := i1
      rw [e9] at i1
      rcases mem_rpT hS hT.2.2 hx with q | q
      · left
        refine ⟨q, i0, ?_⟩
        rw [((bornU_o (s := s) (so := 0) (v := -9) (k := -9)) x (hS.m _ q).2).1.1] at i1
        exact i1
      · exfalso
        have hq := List.mem_singleton.mp q
        rw [hq, show (((s.1 8).toNat : Nat) : Int) = s.1 8 by omega, (bornU_at (s := s) (so := 0) (v := -9) (k := -9)).1] at i1
        have : pO 0 = 0 := by decide
        omega
    · obtain ⟨n1, n4⟩ := ans_b g1 (y := s.1 8) ⟨hB.1, by
        show s.1 8 < (replU (bornU s 0 (-9) (-9)) (s.1 16) (s.1 8)).1 8
        rw [hre.1 8 (by decide)]
        show s.1 8 < s.1 8 + 1
        omega⟩
      refine ⟨n1, ?_⟩
      rw [n4]
      have hl3 := h1.1.1.2.2.1
      refine H3 e ⟨A1 A (s.1 8) (nxt c1), g1, hE2, (cxa_k hx1).tr ((cxa_b hb2.1).tr ((cxa_l hx3).tr (cxa_t g2))), ?_, ?_, g4, ((((NWc.rf).x hl3 hx1 hr1 (by decide)).b hl3 hb2).x hl3 hx3 hr3 (by decide)).x hl3 g2 g3 (by decide)⟩
      · have r2 : RMk 2 16 c1 c2 := ⟨by have := hb2.2.1.1; omega, hb2.2.1.2⟩
        exact ((hr1.tr r2).tr (hr3.tr g3)).up (by decide) (by decide)
      · refine hK1.x hX1 hE2 hB.1 (kp_push hKP hT) ((cxa_b hb2.1).tr ((cxa_l hx3).tr (cxa_t g2)) |> fun _ => ((hb2.1.up (ys' := [(8, 4)] ++ (lys ++ tyY)) (rs' := [1103] ++ srs) (by decide) (fun _ q => by cases q)).tr ((hx3.up (by decide) (by decide)).tr (g2.up (by decide) (by decide))))) (by decide) (by decide)
theorem op_v {y v : Int} (h : OP A c s P Q) (hy : 0 ≤ y ∧ y < s.1 8) : OP A (uI c (A y) 4 v) (ua s 10 y v) P Q ∧ CX [(5, 4)] [] c (uI c (A y) 4 v) := by
  obtain ⟨⟨hX, hN, hI⟩, ⟨hL, hP⟩, ⟨ht, h8, ht0, ht8⟩, hKI, hB⟩ := h
  have hk := hX.dk
  obtain ⟨⟨m1, m2, m3, m4, m5, m6, m7, m8⟩, m9, m10⟩ := hN.2 y hy.1 hy.2
  have hx : CX [(5, 4)] [] c (uI c (A y) 4 v) := CX.rf.uI (fun _ => by rw [ky5 m10, m1]; decide)
  have n70 : A y ≠ 70 := fun q => by rw [q, hk.2.1] at m1; omega
  have o : ∀ b q, q ≠ 4 → fI (uI c (A y) 4 v) b q = fI c b q := fun b q hq => by rw [fI_uI, if_neg (fun w => hq w.1)]
  refine ⟨⟨⟨hX.x hx (by decide) (by decide), ⟨hN.1, fun b b0 b1 => ?_⟩, hI⟩, ⟨fun b hb => ?_, hP⟩, ⟨ht, ?_, ht0, ht8⟩, ?_, hB⟩, hx⟩
  · obtain ⟨⟨n1, n2, n3, n4, n5, n6, n7, n8⟩, n9, n10⟩ := hN.2 b b0 b1
    refine ⟨⟨n1, n2, n3, (o _ _ (by decide)).trans n4, (o _ _ (by decide)).trans n5, (o _ _ (by decide)).trans n6, n7, ?_⟩, n9, n10⟩
    rw [fI_uI]
    show _ = if (10 : Nat) = 10 ∧ b = y then v else s.2 10 b
    by_cases q : b = y
    · subst q; rw [if_pos ⟨rfl, rfl⟩, if_pos ⟨rfl, rfl⟩]
    · rw [if_neg (fun w => q (hN.inj hy w.2)), if_neg (fun w => q w.2)]; exact n8
  · rw [o _ _ (by decide)]
    exact hL b hb
  · rw [fI_uI, if_neg (by omega)]; exact h8
  · refine ⟨?_, hKI.2⟩
    have n65 : A y ≠ 65 := fun q => by rw [q, hk.2.2.2.2] at m1; omega
    rw [fI_uI, if_neg (by omega)]
    exact hKI.1
def fitb (so v : Int) : Prop := (so = 2 → v = 0 ∨ v = 1) ∧ ((so = 3 ∨ so = 8 ∨ so = 10) → 0 ≤ v ∧ v < 26)
theorem fits_c {so v : Int} {F : Int → SC → Prop} (H1 : fitb so v → F 1 c) (H2 : ¬ fitb so v → F 0 c) : ck iv L h0 (d + 1) 45 [vi so, vi v] c (qi F) := by
  unfold fitb at H1 H2
  refine C45 ⟨fun h2 => ⟨fun h1 => H1 (by omega), fun h1 => C43 ⟨fun q => absurd q h1, fun _ => ⟨fun q => absurd q h2, fun _ => ?_⟩⟩⟩, fun h2 => ⟨fun q => H1 (by omega), fun q => ⟨fun q1 => H2 (by omega), fun q1 => H1 (by omega)⟩⟩⟩
  have let26 : (so = 3 ∨ so = 8 ∨ so = 10) → ck iv L h0 d 40 [vi v] c (qi fun r4 s3 => (r4 = 0 → F 0 s3) ∧ (r4 ≠ 0 → F 1 s3)) := fun q => C40 ⟨fun w => ⟨fun _ => H2 (by omega), fun w => absurd rfl w⟩, fun w => ⟨fun w2 => ⟨fun _ => H2 (by omega), fun w => absurd rfl w⟩, fun w2 => ⟨fun w => absurd w (by decide), fun _ => H1 (by omega)⟩⟩⟩
  refine ⟨fun q3 => ⟨fun w => absurd w (by decide), fun _ => let26 (Or.inl q3)⟩, fun q3 => ⟨fun q8 => ⟨fun w => absurd w (by decide), fun _ => let26 (Or.inr (Or.inl q8))⟩, fun q8 => ⟨fun q10 => ⟨fun _ => H1 (by omega), fun w => absurd rfl w⟩, fun q10 => ⟨fun w => absurd w (by decide), fun _ => let26 (Or.inr (Or.inr q10))⟩⟩⟩⟩
theorem write_c {v : Int} {F : Int → SC → Prop} (h1 : R1 A c s t) (hT : AFT s t) (hK : KIs s) (hKS : KSc A c K) (hKP : ∀ u, u ∈ K → KP s u) (hD : 300 ≤ d) (H1 : ¬ wriOk s v → F (wriA s v) c) (H2 : wriOk s v → ∀ e, ACT A c s t K e (ua s 10 (s.1 16) v) t → F (wriA s v) e) : ck iv L h0 d 16 [vr 64, vi v] c (qi F) := by
  obtain ⟨d, rfl⟩ : ∃ k, d = k + 1 + 1 := ⟨d - 2, by omega⟩
  obtain ⟨⟨d1, d2, d3, d4, d5⟩, e1, e2, e3, e4, e5, e6⟩ := h1.cur hT
  have hS := hT.1
  have hB := hS.2.2.2.2.1
  have hcb := hS.m _ hT.2.2
  have go : (s.2 9 (s.1 16) = 1 ∨ s.2 9 (s.1 16) = 2 ∨ s.2 9 (s.1 16) = 3) → ck iv L h0 (d + 1) 45 [vi (s.2 9 (s.1 16)), vi v] c (qi fun r5 s4 => ((r5 ≠ 0 → (kl s4 64 = 1) ∧ (kl s4 (fR s4 64 1) = 8) ∧ ck iv L h0 (d + 1) 219 [vr (fR s4 64 1)] s4 (qv fun s8 => (kl s8 (A (s.1 16)) = 5) ∧ (kl s8 64 = 1) ∧ ck iv L h0 (d + 1) 52 [vr 64] (uI s8 (A (s.1 16)) 4 v) (qv fun s11 => F (fI s8 (A (s.1 16)) 4) s11))) ∧ (r5 = 0 → F (-1) s4))) := fun hs => by
    refine fits_c (fun hf => ⟨fun _ => ?_, fun q => absurd q (by decide)⟩) (fun hf => ⟨fun q => absurd rfl q, fun _ => ?_⟩)
    · have hok : wriOk s v := ⟨hs, fun q => by have := hf.1 q; omega, fun q => by have := hf.2 (Or.inl q); omega⟩
      have hA : wriA s v = s.2 10 (s.1 16) := by
        unfold wriA
        rw [if_pos hs, if_neg]
        intro q
        rcases q with q | q
        · exact q.2 (hok.2.1 q.1)
        · exact q.2 (hok.2.2 q.1)
      have H3 := H2 hok
      rw [hA] at H3
      rw [d3]
      refine ⟨d1, d2, rem_ok h1 hT hKS (fun c1 hO1 hK1 hx1 hr1 => ?_)⟩
      have hX1 := hO1.1.1
      obtain ⟨a1, a2, a3, -⟩ := hX1.dk
      obtain ⟨⟨n1, n2, n3, n4, n5, n6, n7, n8⟩, n9, n10⟩ := hO1.1.2.1.2 _ hcb.1 hcb.2
      obtain ⟨hO2, hx2⟩ := op_v (v := v) hO1 hcb
      refine ⟨n1, a1, ?_⟩
      rw [n8]
      have hcur : fR (uI c1 (A (s.1 16)) 4 v) 70 2 = A (s.1 16) := by
        rw [fR_uI, hx1.r (a := 70) (by have := h1.1.1.2.2.1; omega) (by rw [d2]; decide)]
        exact e1
      have hAft := wri_aft hT hok
      refine changed0_ok hO2 hcur hAft (KIs_q hK (eqx_ua (ys := []) (fs := [10]) eqx.rf (by decide)) (by decide) (by decide)) (fun x hx => hx) (fun x i hx i0 i1 => ⟨hx, i0, i1⟩) (by omega) (fun e g1 g2 g3 g4 => H3 e ⟨A, g1, EXT.rf, (cxa_k hx1).tr ((hx2.up (by decide) (fun _ q => by cases q)).tr (cxa_t g2)), ?_, ?_, g4, (((NWc.rf).x h1.1.1.2.2.1 hx1 hr1 (by decide)).x h1.1.1.2.2.1 hx2 (RMk.rf) (by decide)).x h1.1.1.2.2.1 g2 g3 (by decide)⟩)
      · have r2 : RMk 0 0 c1 (uI c1 (A (s.1 16)) 4 v) := RMk.rf
        exact ((hr1.tr r2).tr g3).up (by decide) (by decide)
      · exact hK1.x hX1 EXT.rf hB.1 (kp_push hKP hT) ((hx2.up (ys' := [(5, 4)] ++ tyY) (rs' := srs) (by decide) (fun _ q => by cases q)).tr (g2.up (by decide) (by decide))) (by decide) (by decide)
    · have := H1 (fun q => hf ⟨fun w => by have := q.2.1 w; omega, fun w => by have := q.2.2 (by omega); omega⟩)
      unfold fitb at hf
      unfold wriA at this
      rw [if_pos hs, if_pos (by omega)] at this
      exact this
  refine C16 ?_
  rw [d3, e1, e2, e3]
  refine ⟨d1, d2, rfl, fun q => go (Or.inl q), fun q1 => ⟨fun q => go (Or.inr (Or.inl q)), fun q2 => ⟨fun q => go (Or.inr (Or.inr q)), fun q3 => ?_⟩⟩⟩
  have := H1 (fun q => by have := q.1; omega)
  unfold wriA at this
  rw [if_neg (by omega)] at this
  exact this
/-- a finding -/
def refC (c : SC) (f : Int) : SC := uA (uI c 64 14 f) 198 f (aI c 198 f + 1)
theorem refuse_c {f : Int} {F : Int → SC → Prop} (hX : FIX c) (hf : 0 ≤ f ∧ f < 6) (hr : 0 ≤ aI c 198 f ∧ aI c 198 f ≤ 600) (hF : F (-3) (refC c f)) : ck iv L h0 d 47 [vr 64, vi f] c (qi F) := by
  have hk : kl c 64 = 1 ∧ fR c 64 11 = 198 ∧ kl c 198 = 100 ∧ le c 198 = 6 := by simp only [hX.1]; exact ⟨trivial, trivial, trivial, trivial⟩
  refine C47 ?_
  rw [hk.1, hk.2.1, hk.2.2.1, hk.2.2.2]
  exact ⟨rfl, rfl, hf, by omega, hF⟩
theorem hasPart_c {x i : Int} {F : Int → SC → Prop} (hN : ND A c s) (hx : 0 ≤ x ∧ x < s.1 8) (H1 : (0 ≤ i ∧ i < pO (s.2 9 x)) → F 1 c) (H2 : ¬ (0 ≤ i ∧ i < pO (s.2 9 x)) → F 0 c) : ck iv L h0 d 187 [vr (A x), vi i] c (qi F) := by
  obtain ⟨⟨n1, n2, n3, n4, n5, n6, n7, n8⟩, n9, n10⟩ := hN.2 x hx.1 hx.2
  refine C187 ?_
  rw [n1, n7, n2, n3]
  exact ⟨fun q => H2 (by omega), fun q => ⟨rfl, by omega, fun q2 => H2 (by omega), fun q2 => H1 (by omega)⟩⟩
theorem unwrap_c {i : Int} {F : Int → SC → Prop} (h1 : R1 A c s t) (hT : AFT s t) (hK : KIs s) (hKS : KSc A c K) (hKP : ∀ u, u ∈ K → KP s u) (hD : 300 ≤ d) (hr : 0 ≤ aI c 198 2 ∧ aI c 198 2 ≤ 600) (H0 : pO (s.2 9 (s.1 16)) = 0 → F (-4) c) (H1 : pO (s.2 9 (s.1 16)) ≠ 0 → ¬ uwOk s i → F (-3) (refC c 2)) (H2 : uwOk s i → ∀ e, ACT A c s t K e (uwU s i) (uwT s t i) → F (s.2 14 (3 * s.1 16 + i)) e) : ck iv L h0 d 15 [vr 64, vi i] c (qi F) := by
  obtain ⟨d, rfl⟩ : ∃ k, d = k + 1 + 1 := ⟨d - 2, by omega⟩
  obtain ⟨⟨d1, d2, d3, d4, d5⟩, e1, e2, e3, e4, e5, e6⟩ := h1.cur hT
  have hS := hT.1
  have hB := hS.2.2.2.2.1
  have hcb := hS.m _ hT.2.2
  obtain ⟨⟨n1, n2, n3, n4, n5, n6, n7, n8⟩, n9, n10⟩ := h1.1.2.1.2 _ hcb.1 hcb.2
  refine C15 ?_
  rw [d3, e1, e2, n7, n2, n3]
  refine ⟨d1, d2, rfl, by omega, fun hp => hasPart_c h1.1.2.1 hcb (fun hi => ⟨fun _ => ⟨d1, by rw [d3]; exact d2, ?_⟩, fun q => absurd q (by decide)⟩) (fun hi => ⟨fun q => absurd rfl q, fun _ => ⟨d1, refuse_c h1.1.1 (by omega) hr (H1 hp hi)⟩⟩), H0⟩
  have H3 := H2 hi
  rw [d3]
  refine rem_ok h1 hT hKS (fun c1 hO1 hK1 hx1 hr1 => ?_)
  have hX1 := hO1.1.1
  obtain ⟨a1, a2, a3, -⟩ := hX1.dk
  obtain ⟨⟨n1, n2, n3, n4, n5, n6, n7, n8⟩, n9, n10⟩ := hO1.1.2.1.2 _ hcb.1 hcb.2
  have hp14 := hO1.2.1.2 (s.1 16) i ⟨hT.2.2, hi⟩
  have hpb := (hO1.1.2.2.2 (s.1 16) i ⟨hT.2.2, hi⟩).2.2
  rw [n7, n2, n3, hp14, a3]
  refine ⟨n1, rfl, hi, a1, a2, repl_c hO1 hT.2.2 hpb (fun q => pl_in hS hT.2.2 q) (fun c2 hO2 hx2 hr2 => ?_)⟩
  obtain ⟨a1, a2, a3, -⟩ := hO2.1.1.dk
  rw [a3]
  have hre := replU_e (s := s) (o := s.1 16) (c := s.2 14 (3 * s.1 16 + i))
  refine ⟨a1, a2, changed_ok hO2 (unwrap_aft hT hi) (KIs_q hK hre (by decide) (by decide)) (fun x hx => ?_) (fun x j hx i0 i1 => ?_) (by omega) (fun e g1 g2 g3 g4 => ?_)⟩
  · have : x ∈ fl t := by
      obtain ⟨b1, b2, b3, b4, b5, b6, b7⟩ := sq_ok hS.1 hS.2.1 hS.2.2.1 hT.2.2
      rcases mem_rpT hS hT.2.2 hx with q | q
      · exact q
      · exact b4 x ((prt_ok (sq (s.1 16) t) b1 b5 hi.1 (by have := b2; unfold full at this; rw [this, b3]; exact hi.2)).2.2.2.1 x q)
    exact Or.inl this
  · have : x ∈ fl t := by
      obtain ⟨b1, b2, b3, b4, b5, b6, b7⟩ := sq_ok hS.1 hS.2.1 hS.2.2.1 hT.2.2
      rcases mem_rpT hS hT.2.2 hx with q | q
      · exact q
      · exact b4 x ((prt_ok (sq (s.1 16) t) b1 b5 hi.1 (by have := b2; unfold full at this; rw [this, b3]; exact hi.2)).2.2.2.1 x q)
    have i1 : j < pO ((replU s (s.1 16) (s.2 14 (3 * s.1 16 + i))).2 9 x) := i1
    rw [hre.2 9 (by decide)] at i1
    exact Or.inl ⟨this, i0, i1⟩
  · obtain ⟨n1, n4⟩ := ans_b g1 (y := s.2 14 (3 * s.1 16 + i)) (by
      show 0 ≤ s.2 14 (3 * s.1 16 + i) ∧ s.2 14 (3 * s.1 16 + i) < (replU s (s.1 16) (s.2 14 (3 * s.1 16 + i))).1 8
      rw [hre.1 8 (by decide)]
      exact hpb)
    refine ⟨n1, ?_⟩
    rw [n4]
    refine H3 e ⟨A, g1, EXT.rf, (cxa_k hx1).tr ((cxa_l hx2).tr (cxa_t g2)), ((hr1.tr hr2).tr g3).up (by decide) (by decide), ?_, g4, (((NWc.rf).x h1.1.1.2.2.1 hx1 hr1 (by decide)).x h1.1.1.2.2.1 hx2 hr2 (by decide)).x h1.1.1.2.2.1 g2 g3 (by decide)⟩
    exact hK1.x hX1 EXT.rf hB.1 (kp_push hKP hT) ((hx2.up (ys' := lys ++ tyY) (rs' := [1103] ++ srs) (by decide) (by decide)).tr (g2.up (by decide) (by decide))) (by decide) (by decide)
end
