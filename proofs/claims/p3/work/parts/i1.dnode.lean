/-! Working by the desk: nodes (C234 to C238). -/
section
variable {iv : List (Int × Int)} {L : Nat} {h0 : MH} {A A' : Int → Nat} {P : Nat → Prop} {c c0 e f : SC} {σ s s' w : SM} {t : Term} {d p a g x y n : Nat} {b most st kv ks kv' ks' k0 k1 k q : Int} {ys : List (Nat × Nat)} {rs : List Nat} {R : RS} {X Y E : Term} {l : List (Int × Nat)}
theorem dtwo_c {z : Int} {F : Int → SC → Prop} (hz : 4 ≤ z ∧ z < 15 ∧ z ≠ 8 ∧ z ≠ 10) (h1 : pO z = 2 → F 1 c) (h2 : pO z ≠ 2 → F 0 c) : ck iv L h0 (d + 1) 237 [vi z] c (qi F) := by
  refine C237 ⟨fun q => h1 (by rw [q]; rfl), fun q => ⟨fun q2 => h1 (by rw [q2]; rfl), fun q2 => C238 ⟨fun q3 => by exfalso; omega, fun q3 => ⟨fun q4 => ?_, fun q4 => ?_⟩⟩⟩⟩
  · refine ⟨fun _ => h2 ?_, fun w => absurd rfl w⟩
    rcases (show z = 11 ∨ z = 13 ∨ z = 14 by omega) with e | e | e <;> rw [e] <;> decide
  · refine ⟨fun w => (by cases w), fun _ => h1 ?_⟩
    rcases (show z = 4 ∨ z = 5 ∨ z = 6 ∨ z = 7 by omega) with e | e | e | e <;> rw [e] <;> decide
theorem DWX.num (hD : DWX A c0 σ t p) : NB σ := hD.1.2.2.1
/-- the steps counted -/
theorem step_x (hD : DWX A c0 σ t p) (hS : DWS c0 p most st kv ks c) (z : Int) : CX wkY wkR c (uI c 176 3 z) ∧ (STY (LIV c p) (LIV (uI c 176 3 z) p) c (uI c 176 3 z) ∧ STY (YNG c p) (YNG (uI c 176 3 z) p) c (uI c 176 3 z)) ∧ PL2 (uI c 176 3 z) ∧ ∀ u v, ¬ (u = 176 ∧ v = 3) → fI (uI c 176 3 z) u v = fI c u v := by
  have hX := hD.fx hS.1
  obtain ⟨k1, k2, k3⟩ := hX.wk
  have hp : p ≠ 176 := by have := hD.2.1; omega
  have hk : ky 176 (kl c 176) = 11 := by rw [k1]; rfl
  have ei : ∀ u v, ¬ (u = 176 ∧ v = 3) → fI (uI c 176 3 z) u v = fI c u v := fun u v hu => by rw [fI_uI, if_neg (fun w => hu ⟨w.2, w.1⟩)]
  have hLv : ∀ u, LIV c p u → LIV (uI c 176 3 z) p u := fun u hu => LIV_eq (f := c) (e := uI c 176 3 z) rfl (fun v => ei p v (fun w => hp w.1)) (fun _ => rfl) u hu
  have hYv : ∀ u, YNG c p u → YNG (uI c 176 3 z) p u := yng_up hLv (fun q i hq hn => ⟨rfl, rfl⟩)
  exact ⟨CX.uI CX.rf (fun _ => by rw [hk]; decide), ⟨fun u hu => ⟨hLv u hu, fun _ => ⟨rfl, fun v _ => ⟨ei u v (by have := hu.1.1; omega), rfl⟩⟩⟩, fun u hu => ⟨hYv u hu, fun _ => ⟨rfl, fun v _ => ⟨ei u v (by have := hu.1.1.1; omega), rfl⟩⟩⟩⟩, PL2_eq hS.2.1 rfl (fun q v hq => ei q v (by omega)) (fun _ => rfl) (fun _ => rfl), ei⟩
theorem DWS.step (hD : DWX A c0 σ t p) (hS : DWS c0 p most st kv ks c) (h : st < most) : DWS c0 p most (st + 1) (kv + 2) (ks + 1) (uI c 176 3 (st + 1)) := by
  obtain ⟨x1, x2, x3, x4⟩ := step_x hD hS (st + 1)
  obtain ⟨a1, a2, a3, a4, a5, a6⟩ := id hS
  have hp : p ≠ 176 := by have := hD.2.1; omega
  refine ⟨a1.tr x1, x3, ⟨a3.1, ?_, ?_, ?_, ?_⟩, by omega, ?_, ?_⟩
  · rw [x4 176 2 (by decide)]; exact a3.2.1
  · rw [fI_uI, if_pos ⟨rfl, rfl⟩]
  · rw [x4 176 4 (by decide)]; exact a3.2.2.2.1
  · rw [x4 176 5 (by decide)]; exact a3.2.2.2.2
  · rw [x4 p 2 (fun w => hp w.1)]; omega
  · rw [x4 p 3 (fun w => hp w.1)]; omega
theorem DWP.lev (hD : DWX A c0 σ t p) (hS : DWS c0 p most st kv ks c) (h : DWP A p kv' k0 k1 (uI c 176 3 (st + 1)) (st + 1) R a e) : DWP A p (kv' - 2) (k0 - 1) (k1 - 1) c st R a e := by
  obtain ⟨x1, x2, x3, x4⟩ := step_x hD hS (st + 1)
  obtain ⟨a1, a2, a3, a4, a5, a6⟩ := h
  have hp : p ≠ 176 := by have := hD.2.1; omega
  rw [x4 p 2 (fun w => hp w.1), x4 p 3 (fun w => hp w.1)] at a4
  refine ⟨⟨x1.tr a1.1, RMP.rf.tr a1.2⟩, ⟨⟨x2.1.tr a2.1.1, x2.2.tr a2.1.2⟩, a2.2⟩, a3, ⟨by omega, ?_⟩, a5, a6⟩
  have := a4.2
  split at this <;> omega
theorem DWP.ne (h : DWP A p kv k0 k1 c st R a e) (hv : R.2.1 = 0 → isV R.2.2.2 = true) : (R.2.1 = 0 ↔ a ≠ 2) := by
  obtain ⟨a1, a2, a3, a4, a5, a6⟩ := h
  exact ⟨fun q => DV_ne (hv q) (a5 q), fun q => Classical.byContradiction fun w => q (a6 w)⟩
theorem EV_okd (hD : DWX A c0 σ t p) (n : Nat) : ∀ b E st, b ∈ fl t → isE 26 E → VN σ t E → cov σ b E → st ≤ most → RO σ t most st ((EV σ most n).1 b E st) := evw_okw hD.1.2.1 hD.1.2.2.1 hD.1.2.2.2 most n
/-- a name -/
theorem dname_c {F : Nat → SC → Prop} (hD : DWX A c0 σ t p) (hS : DWS c0 p most st kv ks c) (hk : 0 ≤ kv) (hb : b ∈ fl t) (hso : σ.2 9 b = 3) (hE : isE 26 E ∧ VN σ t E ∧ cov σ b E) (hg : CHN c (YNG c p) g l ∧ DV A c (YNG c p) E 2 l) (hF : ∀ a e, DWP A p 2 0 1 c st (frmE (σ.2 21) b (wplE (σ.2 9) (σ.2 10) (σ.2 14) (σ.2 21) (EV σ most n).1 b E st)) a e → F a e) : ck iv L h0 (d + 3) 235 [vr 176, vr (A b), vr g] c (qa F) := by
  have hcx := hS.1
  obtain ⟨w1, w2, w3⟩ := hD.wk hcx
  obtain ⟨⟨n1, n2, n3, n4, n5⟩, ⟨r1, r2, -⟩, -⟩ := hD.node hcx hb
  have hbl := hD.1.2.1.lt hb
  obtain ⟨m1, m2, m3, m4⟩ := hD.num b hbl.1 hbl.2.1
  have hnu := m2 (Or.inl hso)
  have hp := hS.2.2.1.1
  have ew : wplE (σ.2 9) (σ.2 10) (σ.2 14) (σ.2 21) (EV σ most n).1 b E st = rok st (if σ.2 21 b = 1 then .index (σ.2 10 b).toNat else lkE E (σ.2 10 b)) := by
    unfold wplE
    rw [if_neg (by omega), if_neg (by omega), if_neg (by omega), if_pos hso]
  rw [ew] at hF
  unfold frmE at hF
  refine C235 ⟨n1, ?_⟩
  rw [n5, n4, hp]
  have lk : (chf l (σ.2 10 b) = 2 ↔ lkE E (σ.2 10 b) = .null) ∧ (lkE E (σ.2 10 b) ≠ .null → DV A c (YNG c p) (lkE E (σ.2 10 b)) (chf l (σ.2 10 b)) []) := by
    obtain ⟨m, hm⟩ : ∃ m : Nat, σ.2 10 b = m := ⟨(σ.2 10 b).toNat, by omega⟩
    rw [hm]
    exact DV_lk 26 E hE.1 hg.2 m (Nat.zero_le _) (by omega)
  refine ⟨fun q => ⟨w1, ?_⟩, fun q => ⟨w1, w2, ?_⟩⟩
  · have hnn : lkE E (σ.2 10 b) ≠ .null := hE.2.2 _ hnu.1 hnu.2 (hD.1.2.2.2 b hb hso q)
    have hv : isV (lkE E (σ.2 10 b)) = true ∧ VN σ t (lkE E (σ.2 10 b)) := VN_lk E (σ.2 10 b) hE.2.1 hnn
    rw [if_neg q] at hF
    have hc2 : chf l (σ.2 10 b) ≠ 2 := fun w => hnn (lk.1.mp w)
    have hdv := lk.2 hnn
    refine seen_find_c (fun a h => by have := h.1.1.1; omega) hg.1 ⟨fun _ => ⟨n1, ?_⟩, fun w => absurd w hc2⟩
    rw [n5, hp]
    refine ⟨fun q2 => ⟨w1, w2, ?_⟩, fun q2 => ?_⟩
    · rw [if_pos (by omega), bnR_0 rfl] at hF
      exact dlen_c hD hS hk hdv (fun a e h => hF a e (h.up (by decide) (by decide) (by decide)))
    · rw [if_neg (by omega)] at hF
      exact hF _ c ⟨⟨CX.rf, RMP.rf⟩, ⟨⟨STY.rf, STY.rf⟩, hS.2.1⟩, ⟨hS.2.2.1.2.2.1, hS.2.2.1.2.2.2.1, hS.2.2.1.2.2.2.2⟩, ⟨by show fI c p 2 ≤ fI c p 2 + 2 * (st - st) + 2; omega, by show fI c p 3 ≤ fI c p 3 + (st - st) + 0; omega⟩, fun _ => hdv, fun w => absurd rfl w⟩
  · rw [if_pos q, if_neg (by omega)] at hF
    exact dindex_c hD hS hk hnu.1 (fun a e h => hF a e (h.up (by decide) (by decide) (by decide)))
/-- what is done at a node -/
theorem dnode_c {z : Int} {F : Nat → SC → Prop} (hD : DWX A c0 σ t p) (hW : WCD iv L h0 A c0 σ t p most n) (hS : DWS c0 p most st kv ks c) (hk : 1 ≤ kv ∧ 1 ≤ ks) (hz : z = 60 - n) (hb : b ∈ fl t) (hso : σ.2 9 b ≠ 3) (hE : isE 26 E ∧ VN σ t E ∧ cov σ b E) (hg : CHN c (YNG c p) g l ∧ DV A c (YNG c p) E 2 l) (hin : inR (σ.2 10 b)) (hF : ∀ a e, DWP A p 1 0 1 c st (wplE (σ.2 9) (σ.2 10) (σ.2 14) (σ.2 21) (EV σ most n).1 b E st) a e → F a e) : ck iv L h0 (3 * n + 12) 236 [vr 176, vr (A b), vr g, vi z] c (qa F) := by
  have hcx := hS.1
  have hT := hD.1.2.1
  have hN := hD.num
  have hXc := hD.fx hcx
  obtain ⟨w1, w2, w3⟩ := hD.wk hcx
  obtain ⟨⟨n1, n2, n3, n4, n5⟩, -, ⟨n6, n7, n8⟩, n9⟩ := hD.node hcx hb
  have hbl := hT.lt hb
  obtain ⟨m1, m2, m3, m4⟩ := hN b hbl.1 hbl.2.1
  have hp := hS.2.2.1.1
  have hk0 : 0 ≤ kv := by omega
  have ow := EV_okd (most := most) hD n
  unfold wplE at hF
  have prt : ∀ i, 0 ≤ i → i < pO (σ.2 9 b) → ¬ (σ.2 9 b = 8 ∨ (σ.2 9 b = 10 ∧ i = 1)) → σ.2 14 (3 * b + i) ∈ fl t ∧ cov σ (σ.2 14 (3 * b + i)) E := fun i i0 i1 hn => cov_part hT hb ⟨i0, i1⟩ hn hE.2.2
  have prt0 : 0 < pO (σ.2 9 b) → ¬ σ.2 9 b = 8 → (σ.2 14 (3 * b) ∈ fl t ∧ cov σ (σ.2 14 (3 * b)) E) ∧ aR c (A b + 1) 0 = A (σ.2 14 (3 * b)) := fun i1 hn => by
    have h1 := prt 0 (Int.le_refl 0) i1 (by omega)
    have h2 := n9 0 (Int.le_refl 0) i1
    rw [Int.add_zero] at h1 h2
    exact ⟨h1, h2⟩
  refine C236 ⟨n1, ?_⟩
  rw [n3, n4, n6, n7, n8, hp]
  refine ⟨fun q => ⟨w1, w2, ?_⟩, fun q => ⟨w1, w2, ?_⟩, fun q => ⟨w1, w2, ?_⟩, fun q => ?_, fun q => ⟨w1, w2, ?_⟩⟩
  · rw [if_pos q] at hF
    exact ddiv_c hD hS hk0 hbl.1 hg (fun a e h => hF a e (h.up (by decide) (by decide) (by decide)))
  · rw [if_neg (by omega), if_pos q] at hF
    exact dint_c hD hS hk0 hin (fun a e h => hF a e (h.up (by decide) (by decide) (by decide)))
  · rw [if_neg (by omega), if_neg (by omega), if_pos q] at hF
    exact darg_c hD hS hk0 (by have := m3 q; omega) (fun a e h => hF a e (h.up (by decide) (by decide) (by decide)))
  · -- parts
    rw [if_neg (by omega), if_neg (by omega), if_neg (by omega), if_neg (by omega), if_neg (by omega)] at hF
    have hp1 : 0 < pO (σ.2 9 b) := by
      rcases (show σ.2 9 b = 4 ∨ σ.2 9 b = 5 ∨ σ.2 9 b = 6 ∨ σ.2 9 b = 7 ∨ σ.2 9 b = 9 ∨ σ.2 9 b = 10 ∨ σ.2 9 b = 11 ∨ σ.2 9 b = 12 ∨ σ.2 9 b = 13 ∨ σ.2 9 b = 14 ∨ σ.2 9 b = 15 by omega) with e | e | e | e | e | e | e | e | e | e | e <;> rw [e] <;> decide
    obtain ⟨⟨p1, p2⟩, p3⟩ := prt0 hp1 (by omega)
    obtain ⟨r1, r2, r3⟩ := ow _ E st p1 hE.1 hE.2.1 p2 hS.2.2.2.1.2.1
    rw [p3]
    refine ⟨rfl, ⟨by decide, hp1⟩, w1, dwsub_c hW p1 ⟨hE.1, hE.2.1, p2⟩ hg hS ⟨by omega, by omega⟩ (by omega) hz (fun a e h => ?_)⟩
    have hne := h.ne (fun q => (r3 q).2.1)
    by_cases g0 : ((EV σ most n).1 (σ.2 14 (3 * b)) E st).2.1 = 0
    · obtain ⟨x1, x2, x3⟩ := r3 g0
      have S2 := hS.nx hXc h r1 ⟨g0, x1⟩
      have hXe := hD.fx S2.1
      obtain ⟨v1, v2, v3⟩ := hD.wk S2.1
      obtain ⟨⟨o1, o2, o3, o4, o5⟩, -, ⟨o6, o7, o8⟩, o9⟩ := hD.node S2.1 hb
      have vx := h.2.2.2.2.1 g0
      have hg2 : CHN e (YNG e p) g l ∧ DV A e (YNG e p) E 2 l := ⟨CHN.up h.2.1.1.2 l g hg.1, DV_up h.2.1.1.2 _ E 2 l (Nat.lt_succ_self _) hg.2⟩
      have pp := S2.2.2.1.1
      refine ⟨fun w => absurd w (hne.mp g0), fun _ => ⟨o1, ?_⟩⟩
      rw [o3, o4, o6, o7, o8, pp]
      refine ⟨fun q15 => ⟨fun q10 => ?_, fun q10 => ?_⟩, fun q15 => ?_⟩
      · rw [if_neg q15, if_neg q10, bnR_0 g0] at hF
        have act1 : pO (σ.2 9 b) ≠ 2 → ck iv L h0 (3 * n + 11) 239 [vr 176, vr (A b), vr a, vr 2, vr g, vi z] e (qa fun r s => F r s) := fun hq => by
          rw [if_neg hq] at hF
          refine dact_c (Y := .null) hD hW S2 ⟨by omega, by omega⟩ hz hb (by omega) ⟨⟨x2, x3⟩, vx⟩ (fun q3 => by exfalso; rcases q3 with q | q | q | q | q | q <;> rw [q] at hq <;> exact hq rfl) (fun _ => rfl) (fun _ => ⟨hE, hg2⟩) (fun a' e' h' => hF a' e' ((h.tr g0 h').up (by decide) (by decide) (by decide)))
        refine dtwo_c (by omega) (fun hq => ⟨fun w => (by cases w), fun _ => ⟨o1, ?_⟩⟩) (fun hq => ⟨fun _ => ⟨v1, act1 hq⟩, fun w => absurd rfl w⟩)
        rw [if_pos hq] at hF
        obtain ⟨p4, p5⟩ := prt 1 (by decide) (by omega) (by omega)
        obtain ⟨y1, y2, y3⟩ := ow _ E ((EV σ most n).1 (σ.2 14 (3 * b)) E st).1 p4 hE.1 hE.2.1 p5 r1.2
        rw [o6, o7, o8, o9 1 (by decide) (by omega), hq]
        refine ⟨rfl, ⟨by decide, by decide⟩, v1, dwsub_c hW p4 ⟨hE.1, hE.2.1, p5⟩ hg2 S2 ⟨by omega, by omega⟩ (by omega) hz (fun a' e' h' => ?_)⟩
        have hne' := h'.ne (fun q => (y3 q).2.1)
        by_cases g1 : ((EV σ most n).1 (σ.2 14 (3 * b + 1)) E ((EV σ most n).1 (σ.2 14 (3 * b)) E st).1).2.1 = 0
        · obtain ⟨z1, z2, z3⟩ := y3 g1
          rw [bnR_0 g1] at hF
          have S3 := S2.nx hXe h' y1 ⟨g1, z1⟩
          have vy := h'.2.2.2.2.1 g1
          have vx2 := DV_up h'.2.1.1.2 _ _ a [] (Nat.lt_succ_self _) vx
          have hg3 : CHN e' (YNG e' p) g l ∧ DV A e' (YNG e' p) E 2 l := ⟨CHN.up h'.2.1.1.2 l g hg2.1, DV_up h'.2.1.1.2 _ E 2 l (Nat.lt_succ_self _) hg2.2⟩
          refine ⟨fun _ => ⟨(hD.wk S3.1).1, ?_⟩, fun w => absurd w (hne'.mp g1)⟩
          refine dact_c hD hW S3 ⟨by omega, by omega⟩ hz hb (by omega) ⟨⟨x2, x3⟩, vx2⟩ (fun _ => ⟨⟨z2, z3⟩, vy⟩) (fun q3 => ?_) (fun _ => ⟨hE, hg3⟩) (fun a'' e'' h'' => hF a'' e'' (((h.tr g0 h').tr g1 h'').up (by decide) (by decide) (by decide)))
          exfalso
          rcases (show σ.2 9 b = 11 ∨ σ.2 9 b = 13 ∨ σ.2 9 b = 14 by omega) with q | q | q <;> rw [q] at hq <;> cases hq
        · rw [bnR_n g1] at hF
          have ea : a' = 2 := h'.2.2.2.2.2 g1
          subst ea
          exact ⟨fun w => absurd rfl w, fun _ => hF 2 e' ((h.tr g0 h').up (by decide) (by decide) (by decide))⟩
      · rw [if_neg q15, if_pos q10, bnR_0 g0] at hF
        have hnu := m2 (Or.inr (Or.inr q10))
        have hp2 : pO (σ.2 9 b) = 2 := by rw [q10]; rfl
        have cb := cov_bind hT hN (i := 1) hb (by rw [hp2]; decide) (Or.inr ⟨q10, rfl⟩) hE.1 (isV_nn x2) hE.2.2
        rw [o9 1 (by decide) (by rw [hp2]; decide), hp2]
        refine ⟨rfl, ⟨by decide, by decide⟩, v1, v2, ?_⟩
        refine bind_c hXe hD.2.1 (S2.sg (by omega)).1 (S2.sg (by omega)).2 (fun e2 a2 hw => ?_)
        obtain ⟨b1, b2, b3⟩ := dw_bind hD S2 hE.1 hg2 ⟨x2, vx⟩ (DV_ne x2 vx) hw
        have S3 := S2.nx hXe b1 ⟨Int.le_refl _, r1.2⟩ ⟨rfl, rfl⟩
        refine ⟨(hD.wk S3.1).1, dwsub_c hW cb.1 ⟨upE_is 26 _ _ _ hE.1, VN_up _ _ _ hE.2.1 x2 x3, cb.2⟩ ⟨b2, b3⟩ S3 ⟨by omega, by omega⟩ (by omega) hz (fun a' e' h' => hF a' e' (((h.tr g0 b1).tr rfl h').up (by decide) (by decide) (by decide)))⟩
      · rw [if_pos q15] at hF
        exact hF a e (h.up (by decide) (by decide) (by decide))
    · have ea : a = 2 := h.2.2.2.2.2 g0
      subst ea
      refine ⟨fun _ => hF 2 e ?_, fun w => absurd rfl w⟩
      rw [bnR_n g0, bnR_n g0]
      split
      · exact h.up (by decide) (by decide) (by decide)
      · split <;> exact h.up (by decide) (by decide) (by decide)
  · rw [if_neg (by omega), if_neg (by omega), if_neg (by omega), if_neg (by omega), if_pos q] at hF
    exact dsub_c hD hS hk0 hbl.1 hg (fun a e h => hF a e (h.up (by decide) (by decide) (by decide)))
end
