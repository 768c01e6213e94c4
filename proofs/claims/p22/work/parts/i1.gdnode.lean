section
/-! Working by the desk: nodes (C234 to C238). -/
section
variable {iv : List (Int × Int)} {L : Nat} {h0 : MH} {A A' : Int → Nat} {P : Nat → Prop} {c c0 e f : SC} {σ s s' w : SM} {t : Term} {d p a g x y n : Nat} {b most st kv ks kv' ks' k0 k1 k q : Int} {ys : List (Nat × Nat)} {rs : List Nat} {R : RS} {X Y E : Term} {l : List (Int × Nat)}
theorem dtwo_c {z : Int} {F : Int → SC → Prop} (hz : 4 ≤ z ∧ z < 15 ∧ z ≠ 8 ∧ z ≠ 10) (h1 : pO z = 2 → F 1 c) (h2 : pO z ≠ 2 → F 0 c) : ck iv L h0 (d + 1) 237 [vi z] c (qi F) := by
  refine C237 ⟨fun q => h1 (by rw [q]; rfl), fun q => ⟨fun q2 => h1 (by rw [q2]; rfl), fun q2 => C238 ⟨fun q3 => by exfalso; omega, fun q3 => ⟨fun q4 => ?_, fun q4 => ?_⟩⟩⟩⟩
  · refine ⟨fun _ => h2 ?_, fun w => absurd rfl w⟩
    rcases (show z = 11 ∨ z = 13 ∨ z = 14 by omega) with e | e | e <;> rw [e] <;> decide
  · refine ⟨fun w => (by cases w), fun _ => h1 ?_⟩
    rcases (show z = 4 ∨ z = 5 ∨ z = 6 ∨ z = 7 by omega) with e | e | e | e <;> rw [e] <;> decide
theorem DWX.num (hD : DWX A c0 σ t p) : NB σ := hD.1.2.2.1
/-- the steps counted -/
theorem step_x (hD : DWX A c0 σ t p) (hS : DWS c0 p most st kv ks c) (z : Int) : CX wkY wkR c (uI c 176 3 z) ∧ (STY (LIV c p) (LIV (uI c 176 3 z) p) c (uI c 176 3 z) ∧ STY (YNG c p) (YNG (uI c 176 3 z) p) c (uI c 176 3 z)) ∧ PL2 (uI c 176 3 z) ∧ ∀ u v, ¬ (u = 176 ∧ v = 3) → fI (uI c 176 3 z) u v = fI c u v := by
  have hX := hD.fx hS.1
  obtain ⟨k1, k2, k3⟩ := hX.wk
  have hp : p ≠ 176 := by have := hD.2.1; omega
  have hk : ky 176 (kl c 176) = 11 := by rw [k1]; rfl
  have ei : ∀ u v, ¬ (u = 176 ∧ v = 3) → fI (uI c 176 3 z) u v = fI c u v := fun u v hu => by rw [fI_uI, if_neg (fun w => hu ⟨w.2, w.1⟩)]
  have hLv : ∀ u, LIV c p u → LIV (uI c 176 3 z) p u := fun u hu => LIV_eq (f := c) (e := uI c 176 3 z) rfl (fun v => ei p v (fun w => hp w.1)) (fun _ => rfl) u hu
  have hYv : ∀ u, YNG c p u → YNG (uI c 176 3 z) p u := yng_up hLv (fun q i hq hn => ⟨rfl, rfl⟩)
  exact ⟨CX.uI CX.rf (fun _ => by rw [hk]; decide), ⟨fun u hu => ⟨hLv u hu, fun _ => ⟨rfl, fun v _ => ⟨ei u v (by have := hu.1.1; omega), rfl⟩⟩⟩, fun u hu => ⟨hYv u hu, fun _ => ⟨rfl, fun v _ => ⟨ei u v (by have := hu.1.1.1; omega), rfl⟩⟩⟩⟩, PL2_eq hS.2.1 rfl (fun q v hq => ei q v (by omega)) (fun _ => rfl) (fun _ => rfl), ei⟩
theorem DWS.step (hD : DWX A c0 σ t p) (hS : DWS c0 p most st kv ks c) (h : st < most) : DWS c0 p most (st + 1) (kv + 2) (ks + 1) (uI c 176 3 (st + 1)) := by
  obtain ⟨x1, x2, x3, x4⟩ := step_x hD hS (st + 1)
  obtain ⟨a1, a2, a3, a4, a5, a6⟩ := id hS
  have hp : p ≠ 176 := by have := hD.2.1; omega
  refine ⟨a1.tr x1, x3, ⟨a3.1, ?_, ?_, ?_, ?_⟩, by omega, ?_, ?_⟩
  · rw [x4 176 2 (by decide)]; exact a3.2.1
  · rw [fI_uI, if_pos ⟨rfl, rfl⟩]
  · rw [x4 176 4 (by decide)]; exact a3.2.2.2.1
  · rw [x4 176 5 (by decide)]; exact a3.2.2.2.2
  · rw [x4 p 2 (fun w => hp w.1)]; omega
  · rw [x4 p 3 (fun w => hp w.1)]; omega
theorem DWP.lev (hD : DWX A c0 σ t p) (hS : DWS c0 p most st kv ks c) (h : DWP A p kv' k0 k1 (uI c 176 3 (st + 1)) (st + 1) R a e) : DWP A p (kv' - 2) (k0 - 1) (k1 - 1) c st R a e := by
  obtain ⟨x1, x2, x3, x4⟩ := step_x hD hS (st + 1)
  obtain ⟨a1, a2, a3, a4, a5, a6⟩ := h
  have hp : p ≠ 176 := by have := hD.2.1; omega
  rw [x4 p 2 (fun w => hp w.1), x4 p 3 (fun w => hp w.1)] at a4
  refine ⟨⟨x1.tr a1.1, RMP.rf.tr a1.2⟩, ⟨⟨x2.1.tr a2.1.1, x2.2.tr a2.1.2⟩, a2.2⟩, a3, ⟨by omega, ?_⟩, a5, a6⟩
  have := a4.2
  split at this <;> omega
theorem DWP.ne (h : DWP A p kv k0 k1 c st R a e) (hv : R.2.1 = 0 → isV R.2.2.2 = true) : (R.2.1 = 0 ↔ a ≠ 2) := by
  obtain ⟨a1, a2, a3, a4, a5, a6⟩ := h
  exact ⟨fun q => DV_ne (hv q) (a5 q), fun q => Classical.byContradiction fun w => q (a6 w)⟩
theorem EV_okd (hD : DWX A c0 σ t p) (n : Nat) : ∀ b E st, b ∈ fl t → isE 26 E → VN σ t E → cov σ b E → st ≤ most → RO σ t most st ((EV σ most n).1 b E st) := evw_okw hD.1.2.1 hD.1.2.2.1 hD.1.2.2.2 most n
/-- a name -/
theorem dname_c {F : Nat → SC → Prop} (hD : DWX A c0 σ t p) (hS : DWS c0 p most st kv ks c) (hk : 0 ≤ kv) (hb : b ∈ fl t) (hso : σ.2 9 b = 3) (hE : isE 26 E ∧ VN σ t E ∧ cov σ b E) (hg : CHN c (YNG c p) g l ∧ DV A c (YNG c p) E 2 l) (hF : ∀ a e, DWP A p 2 0 1 c st (frmE (σ.2 21) b (wplE (σ.2 9) (σ.2 10) (σ.2 14) (σ.2 21) (EV σ most n).1 b E st)) a e → F a e) : ck iv L h0 (d + 3) 235 [vr 176, vr (A b), vr g] c (qa F) := by
  have hcx := hS.1
  obtain ⟨w1, w2, w3⟩ := hD.wk hcx
  obtain ⟨⟨n1, n2, n3, n4, n5⟩, ⟨r1, r2, -⟩, -⟩ := hD.node hcx hb
  have hbl := hD.1.2.1.lt hb
  obtain ⟨m1, m2, m3, m4⟩ := hD.num b hbl.1 hbl.2.1
  have hnu := m2 (Or.inl hso)
  have hp := hS.2.2.1.1
  have ew : wplE (σ.2 9) (σ.2 10) (σ.2 14) (σ.2 21) (EV σ most n).1 b E st = rok st (if σ.2 21 b = 1 then .index (σ.2 10 b).toNat else lkE E (σ.2 10 b)) := by
    unfold wplE
    rw [if_neg (by omega), if_neg (by omega), if_neg (by omega), if_pos hso]
  rw [ew] at hF
  unfold frmE at hF
  refine C235 ⟨n1, ?_⟩
  rw [n5, n4, hp]
  have lk : (chf l (σ.2 10 b) = 2 ↔ lkE E (σ.2 10 b) = .null) ∧ (lkE E (σ.2 10 b) ≠ .null → DV A c (YNG c p) (lkE E (σ.2 10 b)) (chf l (σ.2 10 b)) []) := by
    obtain ⟨m, hm⟩ : ∃ m : Nat, σ.2 10 b = m := ⟨(σ.2 10 b).toNat, by omega⟩
    rw [hm]
    exact DV_lk 26 E hE.1 hg.2 m (Nat.zero_le _) (by omega)
  refine ⟨fun q => ⟨w1, ?_⟩, fun q => ⟨w1, w2, ?_⟩⟩
  · have hnn : lkE E (σ.2 10 b) ≠ .null := hE.2.2 _ hnu.1 hnu.2 (hD.1.2.2.2 b hb hso q)
    have hv : isV (lkE E (σ.2 10 b)) = true ∧ VN σ t (lkE E (σ.2 10 b)) := VN_lk E (σ.2 10 b) hE.2.1 hnn
    rw [if_neg q] at hF
    have hc2 : chf l (σ.2 10 b) ≠ 2 := fun w => hnn (lk.1.mp w)
    have hdv := lk.2 hnn
    refine seen_find_c (fun a h => by have := h.1.1.1; omega) hg.1 ⟨fun _ => ⟨n1, ?_⟩, fun w => absurd w hc2⟩
    rw [n5, hp]
    refine ⟨fun q2 => ⟨w1, w2, ?_⟩, fun q2 => ?_⟩
    · rw [if_pos (by omega), bnR_0 rfl] at hF
      exact dlen_c hD hS hk hdv (fun a e h => hF a e (h.up (by decide) (by decide) (by decide)))
    · rw [if_neg (by omega)] at hF
      exact hF _ c ⟨⟨CX.rf, RMP.rf⟩, ⟨⟨STY.rf, STY.rf⟩, hS.2.1⟩, ⟨hS.2.2.1.2.2.1, hS.2.2.1.2.2.2.1, hS.2.2.1.2.2.2.2⟩, ⟨by show fI c p 2 ≤ fI c p 2 + 2 * (st - st) + 2; omega, by show fI c p 3 ≤ fI c p 3 + (st - st) + 0; omega⟩, fun _ => hdv, fun w => absurd rfl w⟩
  · rw [if_pos q, if_neg (by omega)] at hF
    exact dindex_c hD hS hk hnu.1 (fun a e h => hF a e (h.up (by decide) (by decide) (by decide)))
/-- what is done at a node -/
theorem dnode_c {z : Int} {F : Nat → SC → Prop} (hD : DWX A c0 σ t p) (hW : WCD iv L h0 A c0 σ t p most n) (hS : DWS c0 p most st kv ks c) (hk : 1 ≤ kv ∧ 1 ≤ ks) (hz : z = 60 - n) (hb : b ∈ fl t) (hso : σ.2 9 b ≠ 3) (hE : isE 26 E ∧ VN σ t E ∧ cov σ b E) (hg : CHN c (YNG c p) g l ∧ DV A c (YNG c p) E 2 l) (hin : inR (σ.2 10 b)) (hF : ∀ a e, DWP A p 1 0 1 c st (wplE (σ.2 9) (σ.2 10) (σ.2 14) (σ.2 21) (EV σ most n).1 b E st) a e → F a e) : ck iv L h0 (3 * n + 12) 236 [vr 176, vr (A b), vr g, vi z] c (qa F) := by
  have hcx := hS.1
  have hT := hD.1.2.1
  have hN := hD.num
  have hXc := hD.fx hcx
  obtain ⟨w1, w2, w3⟩ := hD.wk hcx
  obtain ⟨⟨n1, n2, n3, n4, n5⟩, -, ⟨n6, n7, n8⟩, n9⟩ := hD.node hcx hb
  have hbl := hT.lt hb
  obtain ⟨m1, m2, m3, m4⟩ := hN b hbl.1 hbl.2.1
  have hp := hS.2.2.1.1
  have hk0 : 0 ≤ kv := by omega
  have ow := EV_okd (most := most) hD n
  unfold wplE at hF
  have prt : ∀ i, 0 ≤ i → i < pO (σ.2 9 b) → ¬ (σ.2 9 b = 8 ∨ (σ.2 9 b = 10 ∧ i = 1)) → σ.2 14 (3 * b + i) ∈ fl t ∧ cov σ (σ.2 14 (3 * b + i)) E := fun i i0 i1 hn => cov_part hT hb ⟨i0, i1⟩ hn hE.2.2
  have prt0 : 0 < pO (σ.2 9 b) → ¬ σ.2 9 b = 8 → (σ.2 14 (3 * b) ∈ fl t ∧ cov σ (σ.2 14 (3 * b)) E) ∧ aR c (A b + 1) 0 = A (σ.2 14 (3 * b)) := fun i1 hn => by
    have h1 := prt 0 (Int.le_refl 0) i1 (by omega)
    have h2 := n9 0 (Int.le_refl 0) i1
    rw [Int.add_zero] at h1 h2
    exact ⟨h1, h2⟩
  refine C236 ⟨n1, ?_⟩
  rw [n3, n4, n6, n7, n8, hp]
  refine ⟨fun q => ⟨w1, w2, ?_⟩, fun q => ⟨w1, w2, ?_⟩, fun q => ⟨w1, w2, ?_⟩, fun q => ?_, fun q => ⟨w1, w2, ?_⟩⟩
  · rw [if_pos q] at hF
    exact ddiv_c hD hS hk0 hbl.1 hg (fun a e h => hF a e (h.up (by decide) (by decide) (by decide)))
  · rw [if_neg (by omega), if_pos q] at hF
    exact dint_c hD hS hk0 hin (fun a e h => hF a e (h.up (by decide) (by decide) (by decide)))
  · rw [if_neg (by omega), if_neg (by omega), if_pos q] at hF
    exact darg_c hD hS hk0 (by have := m3 q; omega) (fun a e h => hF a e (h.up (by decide) (by decide) (by decide)))
  · -- parts
    rw [if_neg (by omega), if_neg (by omega), if_neg (by omega), if_neg (by omega), if_neg (by omega)] at hF
    have hp1 : 0 < pO (σ.2 9 b) := by
      rcases (show σ.2 9 b = 4 ∨ σ.2 9 b = 5 ∨ σ.2 9 b = 6 ∨ σ.2 9 b = 7 ∨ σ.2 9 b = 9 ∨ σ.2 9 b = 10 ∨ σ.2 9 b = 11 ∨ σ.2 9 b = 12 ∨ σ.2 9 b = 13 ∨ σ.2 9 b = 14 ∨ σ.2 9 b = 15 by omega) with e | e | e | e | e | e | e | e | e | e | e <;> rw [e] <;> decide
    obtain ⟨⟨p1, p2⟩, p3⟩ := prt0 hp1 (by omega)
    obtain ⟨r1, r2, r3⟩ := ow _ E st p1 hE.1 hE.2.1 p2 hS.2.2.2.1.2.1
    rw [p3]
    refine ⟨rfl, ⟨by decide, hp1⟩, w1, dwsub_c hW p1 ⟨hE.1, hE.2.1, p2⟩ hg hS ⟨by omega, by omega⟩ (by omega) hz (fun a e h => ?_)⟩
    have hne := h.ne (fun q => (r3 q).2.1)
    by_cases g0 : ((EV σ most n).1 (σ.2 14 (3 * b)) E st).2.1 = 0
    · obtain ⟨x1, x2, x3⟩ := r3 g0
      have S2 := hS.nx hXc h r1 ⟨g0, x1⟩
      have hXe := hD.fx S2.1
      obtain ⟨v1, v2, v3⟩ := hD.wk S2.1
      obtain ⟨⟨o1, o2, o3, o4, o5⟩, -, ⟨o6, o7, o8⟩, o9⟩ := hD.node S2.1 hb
      have vx := h.2.2.2.2.1 g0
      have hg2 : CHN e (YNG e p) g l ∧ DV A e (YNG e p) E 2 l := ⟨CHN.up h.2.1.1.2 l g hg.1, DV_up h.2.1.1.2 _ E 2 l (Nat.lt_succ_self _) hg.2⟩
      have pp := S2.2.2.1.1
      refine ⟨fun w => absurd w (hne.mp g0), fun _ => ⟨o1, ?_⟩⟩
      rw [o3, o4, o6, o7, o8, pp]
      refine ⟨fun q15 => ⟨fun q10 => ?_, fun q10 => ?_⟩, fun q15 => ?_⟩
      · rw [if_neg q15, if_neg q10, bnR_0 g0] at hF
        have act1 : pO (σ.2 9 b) ≠ 2 → ck iv L h0 (3 * n + 11) 239 [vr 176, vr (A b), vr a, vr 2, vr g, vi z] e (qa fun r s => F r s) := fun hq => by
          rw [if_neg hq] at hF
          refine dact_c (Y := .null) hD hW S2 ⟨by omega, by omega⟩ hz hb (by omega) ⟨⟨x2, x3⟩, vx⟩ (fun q3 => by exfalso; rcases q3 with q | q | q | q | q | q <;> rw [q] at hq <;> exact hq rfl) (fun _ => rfl) (fun _ => ⟨hE, hg2⟩) (fun a' e' h' => hF a' e' ((h.tr g0 h').up (by decide) (by decide) (by decide)))
        refine dtwo_c (by omega) (fun hq => ⟨fun w => (by cases w), fun _ => ⟨o1, ?_⟩⟩) (fun hq => ⟨fun _ => ⟨v1, act1 hq⟩, fun w => absurd rfl w⟩)
        rw [if_pos hq] at hF
        obtain ⟨p4, p5⟩ := prt 1 (by decide) (by omega) (by omega)
        obtain ⟨y1, y2, y3⟩ := ow _ E ((EV σ most n).1 (σ.2 14 (3 * b)) E st).1 p4 hE.1 hE.2.1 p5 r1.2
        rw [o6, o7, o8, o9 1 (by decide) (by omega), hq]
        refine ⟨rfl, ⟨by decide, by decide⟩, v1, dwsub_c hW p4 ⟨hE.1, hE.2.1, p5⟩ hg2 S2 ⟨by omega, by omega⟩ (by omega) hz (fun a' e' h' => ?_)⟩
        have hne' := h'.ne (fun q => (y3 q).2.1)
        by_cases g1 : ((EV σ most n).1 (σ.2 14 (3 * b + 1)) E ((EV σ most n).1 (σ.2 14 (3 * b)) E st).1).2.1 = 0
        · obtain ⟨z1, z2, z3⟩ := y3 g1
          rw [bnR_0 g1] at hF
          have S3 := S2.nx hXe h' y1 ⟨g1, z1⟩
          have vy := h'.2.2.2.2.1 g1
          have vx2 := DV_up h'.2.1.1.2 _ _ a [] (Nat.lt_succ_self _) vx
          have hg3 : CHN e' (YNG e' p) g l ∧ DV A e' (YNG e' p) E 2 l := ⟨CHN.up h'.2.1.1.2 l g hg2.1, DV_up h'.2.1.1.2 _ E 2 l (Nat.lt_succ_self _) hg2.2⟩
          refine ⟨fun _ => ⟨(hD.wk S3.1).1, ?_⟩, fun w => absurd w (hne'.mp g1)⟩
          refine dact_c hD hW S3 ⟨by omega, by omega⟩ hz hb (by omega) ⟨⟨x2, x3⟩, vx2⟩ (fun _ => ⟨⟨z2, z3⟩, vy⟩) (fun q3 => ?_) (fun _ => ⟨hE, hg3⟩) (fun a'' e'' h'' => hF a'' e'' (((h.tr g0 h').tr g1 h'').up (by decide) (by decide) (by decide)))
          exfalso
          rcases (show σ.2 9 b = 11 ∨ σ.2 9 b = 13 ∨ σ.2 9 b = 14 by omega) with q | q | q <;> rw [q] at hq <;> cases hq
        · rw [bnR_n g1] at hF
          have ea : a' = 2 := h'.2.2.2.2.2 g1
          subst ea
          exact ⟨fun w => absurd rfl w, fun _ => hF 2 e' ((h.tr g0 h').up (by decide) (by decide) (by decide))⟩
      · rw [if_neg q15, if_pos q10, bnR_0 g0] at hF
        have hnu := m2 (Or.inr (Or.inr q10))
        have hp2 : pO (σ.2 9 b) = 2 := by rw [q10]; rfl
        have cb := cov_bind hT hN (i := 1) hb (by rw [hp2]; decide) (Or.inr ⟨q10, rfl⟩) hE.1 (isV_nn x2) hE.2.2
        rw [o9 1 (by decide) (by rw [hp2]; decide), hp2]
        refine ⟨rfl, ⟨by decide, by decide⟩, v1, v2, ?_⟩
        refine bind_c hXe hD.2.1 (S2.sg (by omega)).1 (S2.sg (by omega)).2 (fun e2 a2 hw => ?_)
        obtain ⟨b1, b2, b3⟩ := dw_bind hD S2 hE.1 hg2 ⟨x2, vx⟩ (DV_ne x2 vx) hw
        have S3 := S2.nx hXe b1 ⟨Int.le_refl _, r1.2⟩ ⟨rfl, rfl⟩
        refine ⟨(hD.wk S3.1).1, dwsub_c hW cb.1 ⟨upE_is 26 _ _ _ hE.1, VN_up _ _ _ hE.2.1 x2 x3, cb.2⟩ ⟨b2, b3⟩ S3 ⟨by omega, by omega⟩ (by omega) hz (fun a' e' h' => hF a' e' (((h.tr g0 b1).tr rfl h').up (by decide) (by decide) (by decide)))⟩
      · rw [if_pos q15] at hF
        exact hF a e (h.up (by decide) (by decide) (by decide))
    · have ea : a = 2 := h.2.2.2.2.2 g0
      subst ea
      refine ⟨fun _ => hF 2 e ?_, fun w => absurd rfl w⟩
      rw [bnR_n g0, bnR_n g0]
      split
      · exact h.up (by decide) (by decide) (by decide)
      · split <;> exact h.up (by decide) (by decide) (by decide)
  · rw [if_neg (by omega), if_neg (by omega), if_neg (by omega), if_neg (by omega), if_pos q] at hF
    exact dsub_c hD hS hk0 hbl.1 hg (fun a e h => hF a e (h.up (by decide) (by decide) (by decide)))
end
end
section
/-! Working by the desk: every node, by levels. -/
section
variable {iv : List (Int × Int)} {L : Nat} {h0 : MH} {A A' : Int → Nat} {P : Nat → Prop} {c c0 e f : SC} {σ s s' w : SM} {t : Term} {d p a g x y n : Nat} {b most st kv ks kv' ks' k0 k1 k q : Int} {ys : List (Nat × Nat)} {rs : List Nat} {R : RS} {X Y E : Term} {l : List (Int × Nat)}
theorem dspent_c {z : Int} {F : Int → SC → Prop} (hD : DWX A c0 σ t p) (hS : DWS c0 p most st kv ks c) (h1 : st = most ∨ 60 ≤ z → F 1 c) (h0' : st < most → z < 60 → F 0 c) : ck iv L h0 d 233 [vr 176, vi z] c (qi F) := by
  obtain ⟨w1, w2, w3⟩ := hD.wk hS.1
  have e2 := hS.2.2.1.2.1
  have e3 := hS.2.2.1.2.2.1
  have e4 := hS.2.2.2.1
  refine C233 ⟨w1, ?_⟩
  rw [e2, e3]
  exact ⟨fun q => h1 (Or.inl (by omega)), fun q => ⟨fun q2 => h0' q q2, fun q2 => h1 (Or.inr q2)⟩⟩
theorem DWP.sp {k0' : Int} (h : DWP A p kv k0 k1 c st R a e) (hR : R.2.1 ≠ 0) : DWP A p kv k0' k1 c st R a e := by
  obtain ⟨a1, a2, a3, a4, a5, a6⟩ := h
  rw [if_neg hR] at a4
  exact ⟨a1, a2, a3, ⟨a4.1, by rw [if_neg hR]; exact a4.2⟩, a5, a6⟩
theorem WCD_all (hD : DWX A c0 σ t p) : ∀ n : Nat, n ≤ 60 → WCD iv L h0 A c0 σ t p most n := by
  intro n
  induction n with
  | zero =>
    intro _ b st E c g l hb hE hV hc hg1 hg2 hS
    obtain ⟨w1, w2, w3⟩ := hD.wk hS.1
    obtain ⟨⟨n1, n2, n3, n4, n5⟩, -⟩ := hD.node hS.1 hb
    show ck iv L h0 (9 + 1) 234 [vr 176, vr (A b), vr g, vi 60] c _
    refine C234 ⟨w1, dspent_c hD hS (fun _ => ⟨fun w => (by cases w), fun _ => ⟨n1, w1, ?_⟩⟩) (fun _ w => by omega)⟩
    rw [n2]
    exact dstop_c hD hS (by decide) (fun e h => (h.sp (k0' := -1) (by show (4 : Int) ≠ 0; decide)).up (by decide) (by decide) (by decide))
  | succ n ih =>
    intro hn b st E c g l hb hE hV hc hg1 hg2 hS
    have hcx := hS.1
    have hT := hD.1.2.1
    obtain ⟨w1, w2, w3⟩ := hD.wk hcx
    obtain ⟨⟨n1, n2, n3, n4, n5⟩, ⟨r1, r2, r3⟩, -⟩ := hD.node hcx hb
    have ev : ∀ R : RS, R = (EV σ most (n + 1)).1 b E st → R = if st = most then rst st 4 b else frmE (σ.2 21) b (wplE (σ.2 9) (σ.2 10) (σ.2 14) (σ.2 21) (EV σ most n).1 b E (st + 1)) := fun R h => h
    have a3 := hS.2.2.1.2.2.1
    have a4 := hS.2.2.2.1
    rw [show 3 * (n + 1) + 10 = (3 * n + 12) + 1 by omega]
    refine crs_ok (ci := 4) (y := 4) (by decide) (by decide) rfl (fun hR => ?_)
    have hin : inR (σ.2 10 b) := by have := hR _ n1; rw [n4] at this; exact this
    refine C234 ⟨w1, dspent_c hD hS (fun q => ⟨fun w => (by cases w), fun _ => ⟨n1, w1, ?_⟩⟩) (fun q1 q2 => ⟨fun _ => ⟨w1, by omega, n1, ?_⟩, fun w => absurd rfl w⟩)⟩
    · rw [n2]
      have evn := ev _ rfl
      rw [if_pos (by omega)] at evn
      rw [evn]
      exact dstop_c hD hS (by decide) (fun e h => (h.sp (k0' := -1) (by show (4 : Int) ≠ 0; decide)).up (by decide) (by decide) (by decide))
    · have evn := ev _ rfl
      rw [if_neg (by omega)] at evn
      rw [evn, n3, a3]
      obtain ⟨x1, x2, x3, x4⟩ := step_x hD hS (st + 1)
      have S1 := DWS.step hD hS q1
      have hgs : CHN (uI c 176 3 (st + 1)) (YNG (uI c 176 3 (st + 1)) p) g l ∧ DV A (uI c 176 3 (st + 1)) (YNG (uI c 176 3 (st + 1)) p) E 2 l := ⟨CHN.up x2.2 l g hg1, DV_up x2.2 _ E 2 l (Nat.lt_succ_self _) hg2⟩
      refine ⟨fun q => ⟨by omega, ?_⟩, fun q => ?_⟩
      · have hRO : RO σ t most (st + 1) (wplE (σ.2 9) (σ.2 10) (σ.2 14) (σ.2 21) (EV σ most n).1 b E (st + 1)) := work_ok1 hT hD.num hD.1.2.2.2 (most := most) (fun b E st h1 h2 h3 h4 h5 => EV_okd hD n b E st h1 h2 h3 h4 h5) hb hE hV hc (by omega)
        have hr1 : σ.2 21 b ≠ 1 := fun w => q (r3 w)
        have evf : frmE (σ.2 21) b (wplE (σ.2 9) (σ.2 10) (σ.2 14) (σ.2 21) (EV σ most n).1 b E (st + 1)) = if 1 < σ.2 21 b then bnR (wplE (σ.2 9) (σ.2 10) (σ.2 14) (σ.2 21) (EV σ most n).1 b E (st + 1)) (fun st x => rok st (.length x)) else wplE (σ.2 9) (σ.2 10) (σ.2 14) (σ.2 21) (EV σ most n).1 b E (st + 1) := rfl
        rw [evf]
        refine dnode_c hD (ih (by omega)) S1 ⟨by decide, by decide⟩ (by omega) hb q ⟨hE, hV, hc⟩ hgs hin (fun a e h => ?_)
        have hne := h.ne (fun q => (hRO.2.2 q).2.1)
        have hx1 := (x1.tr h.1.1)
        obtain ⟨⟨o1, o2, o3, o4, o5⟩, -⟩ := hD.node (hcx.tr hx1) hb
        by_cases g0 : (wplE (σ.2 9) (σ.2 10) (σ.2 14) (σ.2 21) (EV σ most n).1 b E (st + 1)).2.1 = 0
        · obtain ⟨v1, v2, v3⟩ := hRO.2.2 g0
          refine ⟨fun w => absurd w (hne.mp g0), fun _ => ⟨o1, ?_⟩⟩
          rw [o5]
          refine ⟨fun q3 => ?_, fun q3 => ?_⟩
          · rw [if_pos (by omega), bnR_0 g0]
            have S2 := S1.nx (hD.fx S1.1) h hRO.1 ⟨g0, v1⟩
            rw [S2.2.2.1.1]
            refine ⟨(hD.wk S2.1).1, (hD.wk S2.1).2.1, ?_⟩
            exact dlen_c hD S2 (by omega) (h.2.2.2.2.1 g0) (fun a' e' h' => (DWP.lev hD hS (h.tr g0 h')).up (by decide) (by decide) (by decide))
          · rw [if_neg (by omega)]
            exact (DWP.lev hD hS h).up (by decide) (by decide) (by decide)
        · have ea : a = 2 := h.2.2.2.2.2 g0
          subst ea
          refine ⟨fun _ => ?_, fun w => absurd rfl w⟩
          rw [bnR_n g0]
          split <;> exact (DWP.lev hD hS h).up (by decide) (by decide) (by decide)
      · exact dname_c hD S1 (by decide) hb q ⟨hE, hV, hc⟩ hgs (fun a e h => (DWP.lev hD hS h).up (by decide) (by decide) (by decide))
end
end
section
/-! Going on by the desk: what is seen (C244). -/
def OCD (iv : List (Int × Int)) (L : Nat) (h0 : MH) (A : Int → Nat) (c0 : SC) (σ : SM) (t : Term) (p : Nat) (most : Int) (n : Nat) : Prop := ∀ (V : Term) (st : Int) (c : SC) (a : Nat), isV V = true → VO σ t V → DV A c (LIV c p) V a [] → DWS c0 p most st 0 0 c → ck iv L h0 (3 * n + 10) 241 [vr 176, vr a, vi (60 - (n : Int))] c (qa (DWP A p 0 (-1) 1 c st ((EV σ most n).2 V st)))
/-- behind going on with what is seen -/
def DWE (A : Int → Nat) (p : Nat) (kv k0 k1 : Int) (c : SC) (st : Int) (R : RS) (a : Nat) (e : SC) : Prop := DWP A p kv k0 k1 c st (R.1, R.2.1, R.2.2.1, .null) a e ∧ (R.2.1 = 0 → ∃ l, CHN e (YNG e p) a l ∧ DV A e (YNG e p) R.2.2.2 2 l)
theorem chf_lt : ∀ (l : List (Int × Nat)) (x : Int), (∀ q, q ∈ l → q.1 < x) → chf l x = 2 := by
  intro l
  induction l with
  | nil => intro x _; rfl
  | cons q r ih =>
    intro x h
    have h1 := h q (List.mem_cons_self ..)
    rw [chf_c, if_neg (by omega)]
    exact ih x (fun z hz => h z (List.mem_cons_of_mem _ hz))
theorem DV_ext {A : Int → Nat} {c : SC} {P : Nat → Prop} {l : List (Int × Nat)} {x : Int} {a : Nat} : ∀ (n : Nat) (r : Term), isE n r → (n : Int) ≤ x → DV A c P r 2 l → DV A c P r 2 ((x, a) :: l) := by
  intro n
  induction n with
  | zero => intro r hr _ _; cases r <;> first | exact hr.elim | exact trivial
  | succ n ih =>
    intro r hr hx h
    cases r with
    | mul r y =>
      have hr : isE n r := hr
      have hl := isE_len n r hr
      obtain ⟨h1, h2, h3⟩ := h
      have e : chf ((x, a) :: l) (mlen r) = chf l (mlen r) := by rw [chf_c, if_neg (show ¬ x = (mlen r : Int) by omega)]
      exact ⟨ih r hr (by omega) h1, by rw [e]; exact h2, by rw [e]; exact h3⟩
    | _ => exact hr.elim
section
variable {iv : List (Int × Int)} {L : Nat} {h0 : MH} {A A' : Int → Nat} {P : Nat → Prop} {c c0 e f : SC} {σ s s' w : SM} {t : Term} {d p a g x y n : Nat} {b most st kv ks kv' ks' k0 k1 k q : Int} {ys : List (Nat × Nat)} {rs : List Nat} {R : RS} {X Y E : Term} {l : List (Int × Nat)}
theorem EV_okO (hD : DWX A c0 σ t p) (hFN : FN σ t) (n : Nat) : ∀ v st, isV v = true → VO σ t v → st ≤ most → RO σ t most st ((EV σ most n).2 v st) := (evw_ok hD.1.2.1 hD.1.2.2.1 hD.1.2.2.2 hFN most n).2
theorem sights_c {z : Int} {F : Nat → SC → Prop} (hD : DWX A c0 σ t p) (hFN : FN σ t) (hO : OCD iv L h0 A c0 σ t p most n) (hS : DWS c0 p most st kv ks c) (hk : 0 ≤ kv ∧ 0 ≤ ks) (hz : z = 60 - n) (hE : isE 26 E) (hV : VO σ t E) (hg : CHN c (LIV c p) g l ∧ DV A c (LIV c p) E 2 l) (hF : ∀ a e, DWE A p 0 0 1 c st (envE (EV σ most n).2 E st) a e → F a e) : ck iv L h0 (3 * n + 11) 244 [vr 176, vr g, vi z] c (qa F) := by
  subst hz
  have hst := hS.2.2.2.1
  have key : ∀ (m x : Nat), x + m = 26 → ∀ (r : Nat) (ci : SC) (l' : List (Int × Nat)), (envE (EV σ most n).2 (tkE m E) st).2.1 = 0 → DWP A p 0 0 1 c st ((envE (EV σ most n).2 (tkE m E) st).1, 0, -9, .null) r ci → CHN ci (YNG ci p) r l' → DV A ci (YNG ci p) (envE (EV σ most n).2 (tkE m E) st).2.2.2 2 l' → (∀ q, q ∈ l' → q.1 < (x : Int)) → wk iv L h0 (3 * n + 10 + 1) 244 5 [lr 176, lr g, li (60 - (n : Int)), lr r, li (x : Int)] [] ci (qa F) := by
    intro m
    induction m with
    | zero =>
      intro x hx r ci l' h1 h2 h3 h4 h5
      refine D244_5 ⟨fun _ => hF r ci ⟨?_, fun _ => ⟨l', h3, h4⟩⟩, fun w => by omega⟩
      obtain ⟨y1, y2, y3⟩ := env_ok (EV_okO hD hFN n) 26 E st hE hV hst.2.1
      have e0 : tkE 0 E = E := rfl
      rw [e0] at h1 h2
      have e9 := (y3 h1).1
      rw [h1, e9]
      exact h2
    | succ m ih =>
      intro x hx r ci l' h1 h2 h3 h4 h5
      have hEt : isE x (tkE (m + 1) E) := tkE_is (m + 1) x E (by rw [hx]; exact hE)
      have hVt : VO σ t (tkE (m + 1) E) := VN_tk (m + 1) E hV
      obtain ⟨y1, y2, y3⟩ := env_ok (EV_okO hD hFN n) x (tkE (m + 1) E) st hEt hVt hst.2.1
      obtain ⟨y4, y5, y6, y7⟩ := y3 h1
      have etk := tkE_s m x E (by rw [hx]; exact hE)
      have hSi := (hS.nx (hD.fx hS.1) h2 y1 ⟨rfl, rfl⟩).up (kv' := kv) (ks' := ks) (by omega) (by omega)
      have eE : envE (EV σ most n).2 (tkE m E) st = bnR (optE (fun x => (EV σ most n).2 x (envE (EV σ most n).2 (tkE (m + 1) E) st).1) (envE (EV σ most n).2 (tkE (m + 1) E) st).1 (lkE E x)) (fun st' y => rok st' (.mul (envE (EV σ most n).2 (tkE (m + 1) E) st).2.2.2 y)) := by
        rw [etk]
        show bnR (envE (EV σ most n).2 (tkE (m + 1) E) st) _ = _
        rw [bnR_0 h1]
      generalize envE (EV σ most n).2 (tkE (m + 1) E) st = R0 at *
      have hml := isE_len x _ y5
      have lk := DV_lk 26 E hE hg.2 x (Nat.zero_le _) (by omega)
      obtain ⟨w1, w2, w3⟩ := hD.wk hSi.1
      refine D244_5 ⟨fun w => by omega, fun _ => ⟨w1, seen_find_c (fun a h => by have := h.1.1; omega) (CHN.up h2.2.1.1.1 l g hg.1) ⟨fun q => ⟨by omega, ?_⟩, fun q => ⟨w1, ?_⟩⟩⟩⟩
      · -- nothing is seen
        have hn := lk.1.mp q
        rw [hn, optE_n, bnR_rok] at eE
        have := ih (x + 1) (by omega) r ci l' (by rw [eE]; rfl) (by rw [eE]; exact h2) h3 (by
          rw [eE]
          have ec : chf l' (mlen R0.2.2.2) = 2 := chf_lt l' _ (fun q hq => by rw [hml]; exact h5 q hq)
          exact ⟨h4, ⟨fun _ => rfl, fun _ => ec⟩, fun w => absurd rfl w⟩) (fun q hq => by have := h5 q hq; omega)
        exact this
      · have hnn : lkE E x ≠ .null := fun w => q (lk.1.mpr w)
        obtain ⟨v1, v2⟩ := VN_lk E x hV hnn
        have hdv := DV_up h2.2.1.1.1 _ _ _ [] (Nat.lt_succ_self _) (lk.2 hnn)
        obtain ⟨r1, r2, r3⟩ := EV_okO (most := most) hD hFN n (lkE E x) R0.1 v1 v2 y1.2
        rw [optE_v hnn] at eE
        refine ck_mono (hO (lkE E x) R0.1 ci _ v1 v2 hdv (hSi.up hk.1 hk.2)) (Nat.le_refl _) (fun a e h => ?_)
        have hne := h.ne (fun q => (r3 q).2.1)
        generalize (EV σ most n).2 (lkE E x) R0.1 = R1 at *
        by_cases g0 : R1.2.1 = 0
        · obtain ⟨x1, x2, x3⟩ := r3 g0
          rw [bnR_0 g0] at eE
          have S2 := hSi.nx (hD.fx hSi.1) h r1 ⟨g0, x1⟩
          obtain ⟨u1, u2, u3⟩ := hD.wk S2.1
          refine ⟨fun _ => ⟨u1, ?_⟩, fun w => absurd w (hne.mp g0)⟩
          rw [S2.2.2.1.1]
          refine ⟨u2, ?_⟩
          have e9 : ∃ D, 3 * n + 10 = D + 1 := ⟨3 * n + 9, by omega⟩
          obtain ⟨D, hDD⟩ := e9
          rw [hDD]
          refine bind_c (hD.fx S2.1) hD.2.1 (S2.sg (by omega)).1 (S2.sg (by omega)).2 (fun e2 a2 hw => ⟨by omega, ?_⟩)
          have vx := h.2.2.2.2.1 g0
          have h4' := DV_up h.2.1.1.2 _ _ 2 l' (Nat.lt_succ_self _) h4
          obtain ⟨b1, b2, b3⟩ := dw_bind hD S2 y5 ⟨CHN.up h.2.1.1.2 l' r h3, h4'⟩ ⟨x2, vx⟩ (DV_ne x2 vx) hw
          rw [← hDD]
          have hP : DWP A p 0 0 1 c st (R1.1, 0, -9, .null) a2 e2 := ((h2.tr rfl h).tr g0 b1).up (by decide) (by decide) (by decide)
          refine ih (x + 1) (by omega) a2 e2 (((x : Int), a) :: l') (by rw [eE]; rfl) (by rw [eE]; exact hP) b2 (by
            rw [eE]
            have ec : chf (((x : Int), a) :: l') (mlen R0.2.2.2) = a := by rw [chf_c, if_pos (by rw [hml])]
            have hup : STY (YNG e p) (YNG e2 p) e e2 := b1.2.1.1.2
            have vx2 := DV_up hup _ _ a [] (Nat.lt_succ_self _) vx
            exact ⟨DV_ext x _ y5 (Int.le_refl _) (DV_up hup _ _ 2 l' (Nat.lt_succ_self _) h4'), by rw [ec]; exact ⟨fun w => absurd w (DV_ne x2 vx), fun w => absurd w (isV_nn x2)⟩, fun _ => by rw [ec]; exact vx2⟩) (fun q hq => ?_)
          rcases List.mem_cons.mp hq with rfl | hq
          · show (x : Int) < ((x + 1 : Nat) : Int); omega
          · have := h5 q hq; omega
        · rw [bnR_n g0] at eE
          have ea : a = 2 := h.2.2.2.2.2 g0
          subst ea
          refine ⟨fun w => absurd rfl w, fun _ => hF 2 e ?_⟩
          rw [stopE m E (by rw [eE]; exact g0), eE]
          obtain ⟨t1, t2, t3, t4, t5, t6⟩ := (h2.tr rfl h).up (kv' := 0) (k0' := 0) (k1' := 1) (by decide) (by decide) (by decide)
          exact ⟨⟨t1, t2, t3, t4, fun _ => trivial, t6⟩, fun w => absurd w g0⟩
  have h26 := key 26 0 rfl 2 c []
  have e26 : ∀ (n : Nat) (E : Term), isE n E → tkE n E = .null := by
    intro n
    induction n with
    | zero => intro E h; cases E <;> first | exact h.elim | rfl
    | succ n ih => intro E h; cases E <;> first | exact h.elim | exact ih _ h
  rw [e26 26 E hE] at h26
  rw [show 3 * n + 11 = (3 * n + 10) + 1 by omega]
  refine D244 (h26 rfl ?_ rfl trivial (fun q hq => by cases hq))
  exact ⟨⟨CX.rf, RMP.rf⟩, ⟨⟨STY.rf, STY.rf⟩, hS.2.1⟩, ⟨hS.2.2.1.2.2.1, hS.2.2.1.2.2.2.1, hS.2.2.1.2.2.2.2⟩, ⟨by show fI c p 2 ≤ fI c p 2 + 2 * (st - st) + 0; omega, by show fI c p 3 ≤ fI c p 3 + (st - st) + 0; omega⟩, fun _ => trivial, fun w => absurd rfl w⟩
/-- nothing is seen at all -/
theorem nosights_c {z : Int} {F : Nat → SC → Prop} (hD : DWX A c0 σ t p) (hx : CX wkY wkR c0 c) (hF : F 2 c) : ck iv L h0 (3 * n + 11) 244 [vr 176, vr 2, vi z] c (qa F) := by
  obtain ⟨w1, w2, w3⟩ := hD.wk hx
  have key : ∀ (m : Nat) (i : Int), 0 ≤ i → i + m = 26 → wk iv L h0 (3 * n + 10 + 1) 244 5 [lr 176, lr 2, li z, lr 2, li i] [] c (qa F) := by
    intro m
    induction m with
    | zero => intro i i0 hi; exact D244_5 ⟨fun _ => hF, fun w => by omega⟩
    | succ m ih =>
      intro i i0 hi
      exact D244_5 ⟨fun w => by omega, fun _ => ⟨w1, seen_find_c (P := fun _ => False) (l := []) (fun a h => h.elim) rfl ⟨fun _ => ⟨by omega, ih (i + 1) (by omega) (by omega)⟩, fun w => absurd rfl w⟩⟩⟩
  rw [show 3 * n + 11 = (3 * n + 10) + 1 by omega]
  exact D244 (key 26 0 (by decide) (by decide))
end
end
section
/-! Going on by the desk: fillers, what is left (C190, C242). -/
/-- what filled a hole, as the desk links it -/
def FLK (A : Int → Nat) (c : SC) (σ : SM) (t : Term) : Prop := (∀ b, 0 ≤ b → b < σ.1 8 → 0 < σ.2 42 b → fR c (A b) 12 = A (σ.2 42 b - 1)) ∧ (∀ b, 0 ≤ b → b < σ.1 8 → σ.2 42 b = 0 ∨ (b < σ.2 42 b - 1 ∧ σ.2 42 b - 1 < σ.1 8)) ∧ ∀ b, b ∈ fl t → fR c (A b) 12 = 2
section
variable {iv : List (Int × Int)} {L : Nat} {h0 : MH} {A A' : Int → Nat} {P : Nat → Prop} {c c0 e f : SC} {σ s s' w : SM} {t : Term} {d p a g x y n : Nat} {b most st kv ks kv' ks' k0 k1 k q : Int} {ys : List (Nat × Nat)} {rs : List Nat} {R : RS} {X Y E V : Term} {l : List (Int × Nat)}
theorem DWX.any (h : DWX A c0 σ t p) (hx : CX wkY wkR c0 c) (hb : 0 ≤ b ∧ b < σ.1 8) : kl c (A b) = 5 ∧ fR c (A b) 12 = fR c0 (A b) 12 ∧ A b ≠ 2 := by
  obtain ⟨⟨⟨⟨hX, hN, hH, hL⟩, -, hI, hJ⟩, hT, -⟩, -, hj⟩ := h
  obtain ⟨⟨n1, n2, n3, n4, n5, n6, n7, n8⟩, n9, n10⟩ := hN.2 b hb.1 hb.2
  have k5 : ky (A b) (kl c0 (A b)) = 5 := by rw [ky5 n10]; exact n1
  have hl : A b < nxt c0 := by omega
  exact ⟨(hx.k hl).trans n1, hx.r hl (by rw [k5]; decide), by omega⟩
theorem fill_gt {fb : Int → Int} {B : Int} (h : ∀ b, 0 ≤ b → b < B → fb b = 0 ∨ (b < fb b - 1 ∧ fb b - 1 < B)) : ∀ (n : Nat) (b : Int), 0 ≤ b → b < B → b ≤ fllN fb n b ∧ fllN fb n b < B := by
  intro n
  induction n with
  | zero => intro b b0 b1; exact ⟨Int.le_refl _, b1⟩
  | succ n ih =>
    intro b b0 b1
    show b ≤ (if 0 < fb b then fllN fb n (fb b - 1) else b) ∧ (if 0 < fb b then fllN fb n (fb b - 1) else b) < B
    by_cases q : 0 < fb b
    · rw [if_pos q]
      have h2 := (h b b0 b1).resolve_left (by omega)
      have := ih (fb b - 1) (by omega) h2.2
      omega
    · rw [if_neg q]; omega
theorem nofill_c {F : Nat → SC → Prop} (hD : DWX A c0 σ t p) (hL : FLK A c0 σ t) (hx : CX wkY wkR c0 c) (hb : b ∈ fl t) (hF : F 2 c) : ck iv L h0 d 190 [vr (A b)] c (qa F) := by
  obtain ⟨a1, a2, a3⟩ := hD.any hx ⟨(hD.1.2.1.lt hb).1, (hD.1.2.1.lt hb).2.1⟩
  refine C190 ⟨a1, ?_⟩
  rw [a2, hL.2.2 b hb]
  exact C190_5 ⟨fun _ => hF, fun w => absurd rfl w⟩
theorem filler_c {F : Nat → SC → Prop} (hD : DWX A c0 σ t p) (hL : FLK A c0 σ t) (hx : CX wkY wkR c0 c) (hb : 0 ≤ b ∧ b < σ.1 8) (ht : fllF (σ.2 42) b ∈ fl t) (hF : F (if fllF (σ.2 42) b = b then 2 else A (fllF (σ.2 42) b)) c) : ck iv L h0 d 190 [vr (A b)] c (qa F) := by
  obtain ⟨l1, l2, l3⟩ := id hL
  have h8 := hD.1.2.1.2.2.2.2.1
  obtain ⟨a1, a2, a3⟩ := hD.any hx hb
  have e0 : fllF (σ.2 42) b = if 0 < σ.2 42 b then fllN (σ.2 42) 3003 (σ.2 42 b - 1) else b := rfl
  have key : ∀ (n : Nat) (q : Int), 0 ≤ q → q < σ.1 8 → σ.1 8 - q ≤ n → fllN (σ.2 42) n q ∈ fl t → F (A (fllN (σ.2 42) n q)) c → wk iv L h0 d 190 5 [ln, lr (A q)] [] c (qa F) := by
    intro n
    induction n with
    | zero => intro q q0 q1 hn; omega
    | succ n ih =>
      intro q q0 q1 hn hm h
      obtain ⟨u1, u2, u3⟩ := hD.any hx ⟨q0, q1⟩
      have h : F (A (if 0 < σ.2 42 q then fllN (σ.2 42) n (σ.2 42 q - 1) else q)) c := h
      have hm : (if 0 < σ.2 42 q then fllN (σ.2 42) n (σ.2 42 q - 1) else q) ∈ fl t := hm
      refine C190_5 ⟨fun w => absurd w u3, fun _ => ⟨u1, ?_⟩⟩
      by_cases z : 0 < σ.2 42 q
      · rw [if_pos z] at h hm
        rw [u2, l1 q q0 q1 z]
        have h2 := (l2 q q0 q1).resolve_left (by omega)
        exact ⟨fun w => absurd w (hD.any hx ⟨by omega, h2.2⟩).2.2, fun _ => ih _ (by omega) h2.2 (by omega) hm h⟩
      · rw [if_neg z] at h hm
        rw [u2, l3 q hm]
        exact ⟨fun _ => h, fun w => absurd rfl w⟩
  by_cases z : 0 < σ.2 42 b
  · rw [if_pos z] at e0
    have h2 := (l2 b hb.1 hb.2).resolve_left (by omega)
    have h3 := fill_gt l2 3003 (σ.2 42 b - 1) (by omega) h2.2
    rw [if_neg (by omega), e0] at hF
    rw [e0] at ht
    refine C190 ⟨a1, ?_⟩
    rw [a2, l1 b hb.1 hb.2 z]
    exact key 3003 _ (by omega) h2.2 (by omega) ht hF
  · rw [if_neg z] at e0
    rw [if_pos e0] at hF
    rw [e0] at ht
    exact nofill_c hD hL hx ht hF
theorem DWE.stop (h : DWE A p kv k0 k1 c st R a e) (hR : R.2.1 ≠ 0) : DWP A p kv k0 k1 c st R a e := by
  obtain ⟨⟨t1, t2, t3, t4, t5, t6⟩, -⟩ := h
  exact ⟨t1, t2, t3, t4, fun w => absurd w hR, t6⟩
/-- what was kept over a working -/
theorem STY.v {P Q : Nat → Prop} (h : STY P Q c e) (ha : P a) (hk : kl c a = 10) : Q a ∧ kl e a = 10 ∧ (fI e a 0 = fI c a 0 ∧ fR e a 2 = fR c a 2 ∧ fR e a 3 = fR c a 3 ∧ fR e a 4 = fR c a 4 ∧ fR e a 5 = fR c a 5) := by
  obtain ⟨h1, h2⟩ := h a ha
  obtain ⟨h3, h4⟩ := h2 (Or.inl hk)
  exact ⟨h1, h3.trans hk, (h4 0 (by decide)).1, (h4 2 (by decide)).2, (h4 3 (by decide)).2, (h4 4 (by decide)).2, (h4 5 (by decide)).2⟩
/-- what is left of a hole, a DEF -/
theorem don2_c {z : Int} {D : Nat} {F : Nat → SC → Prop} (hD : DWX A c0 σ t p) (hFN : FN σ t) (hL : FLK A c0 σ t) (hW : WCD iv L h0 A c0 σ t p most n) (hO : OCD iv L h0 A c0 σ t p most n) (hS : DWS c0 p most st kv ks c) (hk : 1 ≤ kv ∧ 1 ≤ ks) (hz : z = 60 - n) (hVV : V = .sub (.index D) E ∨ V = .div (.index D) E) (hV : VO σ t V) (hv : DV A c (LIV c p) V a []) (hF : ∀ a e, DWP A p 1 0 1 c st (oplE (σ.2 9) (σ.2 10) (σ.2 14) (σ.2 42) (EV σ most n).1 (EV σ most n).2 V st) a e → F a e) : ck iv L h0 (3 * n + 12) 242 [vr 176, vr a, vi z] c (qa F) := by
  have hcx := hS.1
  have hT := hD.1.2.1
  obtain ⟨w1, w2, w3⟩ := hD.wk hcx
  have hst := hS.2.2.2.1
  obtain ⟨hk1, hk2, l, hl1, hl2, hE, hVE, hDb, kk⟩ : (LIV c p a ∧ kl c a = 10) ∧ fR c a 2 = A D ∧ ∃ l, CHN c (LIV c p) (fR c a 5) l ∧ DV A c (LIV c p) E 2 l ∧ isE 26 E ∧ VO σ t E ∧ (0 ≤ (D : Int) ∧ (D : Int) < σ.1 8) ∧ ((V = .sub (.index D) E ∧ fI c a 0 = 2) ∨ (V = .div (.index D) E ∧ fI c a 0 = 4)) := by
    rcases hVV with rfl | rfl
    · obtain ⟨⟨h1, h2⟩, h3, h4, l, h5, h6⟩ := hv
      obtain ⟨⟨v1, v2⟩, v3, v4, v5⟩ := hV
      exact ⟨h1, h3, l, h5, h6, v4, v5, ⟨by omega, (hT.lt v1).2.1⟩, Or.inl ⟨rfl, h2⟩⟩
    · obtain ⟨⟨h1, h2⟩, h3, h4, l, h5, h6⟩ := hv
      obtain ⟨⟨v1, v2⟩, v3, v4, v5⟩ := hV
      exact ⟨h1, h3, l, h5, h6, v4, v5, ⟨by omega, v1⟩, Or.inr ⟨rfl, h2⟩⟩
  obtain ⟨y1, y2, y3⟩ := env_ok (EV_okO (most := most) hD hFN n) 26 E st hE hVE hst.2.1
  refine C242 ⟨hk1.2, w1, sights_c hD hFN hO hS ⟨by omega, by omega⟩ hz hE hVE ⟨hl1, hl2⟩ (fun r e h => ?_)⟩
  have hx2 := hcx.tr h.1.1.1
  have hX2 := hD.wk hx2
  have h4 := h.1.2.2.1.2.1
  obtain ⟨u1, u2, u3, u4, -⟩ := h.1.2.1.1.1.v hk1.1 hk1.2
  have op : oplE (σ.2 9) (σ.2 10) (σ.2 14) (σ.2 42) (EV σ most n).1 (EV σ most n).2 V st = bnR (envE (EV σ most n).2 E st) (fun st F => if V = .sub (.index D) E then rok st (.sub (.index D) F) else if fllF (σ.2 42) D = D then rok st (.div (.index D) F) else (EV σ most n).1 (fllF (σ.2 42) D) F st) := by
    rcases kk with ⟨rfl, -⟩ | ⟨rfl, -⟩
    · simp only [if_pos]; rfl
    · simp only [reduceCtorEq, if_false]; rfl
  rw [op] at hF
  generalize envE (EV σ most n).2 E st = R at *
  by_cases g0 : R.2.1 = 0
  · obtain ⟨z1, z2, z3, z4⟩ := y3 g0
    rw [bnR_0 g0] at hF
    obtain ⟨l', hc, hd⟩ := h.2 g0
    have S2 : DWS c0 p most R.1 (kv - 0) (ks - 0) e := hS.nx (hD.fx hcx) (R := (R.1, R.2.1, R.2.2.1, .null)) h.1 y1 ⟨g0, z1⟩
    have h4 : fI e 176 4 = -1 := by rw [h4]; exact if_pos g0
    have hh : ∀ {R' : RS} {a' : Nat} {e' : SC}, DWP A p 1 0 1 e R.1 R' a' e' → DWP A p 1 0 1 c st R' a' e' := fun h' => (h.1.tr g0 h').up (by decide) (by decide) (by decide)
    refine ⟨hX2.1, fun _ => ⟨u2, ?_⟩, fun w => absurd h4 w⟩
    rw [u4, hk2]
    rcases kk with ⟨rfl, kk⟩ | ⟨rfl, kk⟩
    · obtain ⟨⟨v1, v2⟩, v3, v4, v5⟩ := hV
      rw [if_pos rfl] at hF
      refine ⟨(hD.any hx2 hDb).1, nofill_c hD hL hx2 v1 ?_⟩
      rw [u4, hk2, u3, S2.2.2.1.1, kk]
      refine ⟨fun w => absurd rfl w, fun _ => ⟨hX2.1, u2, hX2.2.1, ?_⟩⟩
      exact dsub_c hD S2 (by omega) (b := D) (by omega) ⟨hc, hd⟩ (fun a' e' h' => hF a' e' (hh (h'.up (by decide) (by decide) (by decide))))
    · obtain ⟨⟨v1, v2, v2'⟩, v3, v4, v5⟩ := hV
      rw [if_neg (by simp)] at hF
      have hft : fllF (σ.2 42) (D : Int) ∈ fl t := by
        by_cases q : (D : Int) ∈ fl t
        · have et : tgt σ t D = D := if_pos q
          rw [hFN D q (v2' et)]
          exact q
        · have et : tgt σ t D = fllF (σ.2 42) D := if_neg q
          rw [← et]
          exact v2
      refine ⟨(hD.any hx2 hDb).1, filler_c hD hL hx2 hDb hft ?_⟩
      rw [u4, hk2, u3, S2.2.2.1.1, kk]
      by_cases ef : fllF (σ.2 42) (D : Int) = D
      · rw [if_pos ef] at hF
        rw [if_pos ef]
        refine ⟨fun w => absurd rfl w, fun _ => ⟨hX2.1, u2, hX2.2.1, ?_⟩⟩
        exact ddiv_c hD S2 (by omega) (b := D) (by omega) ⟨hc, hd⟩ (fun a' e' h' => hF a' e' (hh (h'.up (by decide) (by decide) (by decide))))
      · rw [if_neg ef] at hF
        rw [if_neg ef]
        have et := tgt_f hFN v2' ef
        rw [et] at v2 v3
        refine ⟨fun _ => ⟨hX2.1, ?_⟩, fun w => absurd w (hD.any hx2 ⟨by have := hT.lt v2; omega, (hT.lt v2).2.1⟩).2.2⟩
        exact dwsub_c hW v2 ⟨z2, z3, fun z z0 z1 hz q => v3 z z0 z1 hz (z4 z q)⟩ ⟨hc, hd⟩ S2 ⟨by omega, by omega⟩ (by omega) hz (fun a' e' h' => hF a' e' (hh (h'.up (by decide) (by decide) (by decide))))
  · rw [bnR_n g0] at hF
    have hs := h.stop g0
    have er : r = 2 := hs.2.2.2.2.2 g0
    subst er
    have h4 : fI e 176 4 = R.2.1 := by rw [h4]; exact if_neg g0
    exact ⟨hX2.1, fun w => by have := y2.resolve_left g0; omega, fun _ => hF 2 e (hs.up (by decide) (by decide) (by decide))⟩
end
end
section
/-! Going on by the desk: acts that were left, every value (C243, C241). -/
section
variable {iv : List (Int × Int)} {L : Nat} {h0 : MH} {A A' : Int → Nat} {P : Nat → Prop} {c c0 e f : SC} {σ s s' w : SM} {t : Term} {d p a g x y n : Nat} {b most st kv ks kv' ks' k0 k1 k q : Int} {ys : List (Nat × Nat)} {rs : List Nat} {R : RS} {X Y E V : Term} {l : List (Int × Nat)}
theorem rest_c {z : Int} {D : Nat} {F : Nat → SC → Prop} (hD : DWX A c0 σ t p) (hFN : FN σ t) (hW : WCD iv L h0 A c0 σ t p most n) (hO : OCD iv L h0 A c0 σ t p most n) (hS : DWS c0 p most st kv ks e) (hk : 1 ≤ kv ∧ 1 ≤ ks) (hz : z = 60 - n) (hDt : (D : Int) ∈ fl t) (hx : (isV X = true ∧ VN σ t X) ∧ DV A e (YNG e p) X x []) (ha : LIV e p a ∧ kl e a = 10) (ha2 : fR e a 2 = A D)
    (hc : ((σ.2 9 D = 4 ∨ σ.2 9 D = 5 ∨ σ.2 9 D = 6 ∨ σ.2 9 D = 7 ∨ σ.2 9 D = 9) ∧ (isV Y = true ∧ VN σ t Y) ∧ DV A e (YNG e p) Y y [] ∧ E = .null ∧ fR e a 5 = 2) ∨ (σ.2 9 D = 11 ∧ y = 2 ∧ isE 26 E ∧ cov σ D E ∧ VO σ t E ∧ ∃ l, CHN e (LIV e p) (fR e a 5) l ∧ DV A e (LIV e p) E 2 l) ∨ ((σ.2 9 D = 13 ∨ σ.2 9 D = 14) ∧ y = 2 ∧ E = .null ∧ fR e a 5 = 2))
    (hF : ∀ a' e', DWP A p 1 0 2 e st (bnR (optE (fun E => envE (EV σ most n).2 E st) st E) (fun st F => actE (σ.2 9) (σ.2 10) (σ.2 14) (EV σ most n).1 D X Y F st)) a' e' → F a' e') :
    ck iv L h0 (3 * n + 11) 244 [vr 176, vr (fR e a 5), vi z] e (qa fun r s => (kl s 176 = 11) ∧ ((fI s 176 4 ≠ (-1) → F 2 s) ∧ (fI s 176 4 = (-1) → (kl s a = 10) ∧ ck iv L h0 (3 * n + 11) 239 [vr 176, vr (fR s a 2), vr x, vr y, vr r, vi z] s (qa fun r12 s11 => F r12 s11)))) := by
  have w1 := (hD.wk hS.1).1
  have hst := hS.2.2.2.1
  have nos : E = .null → fR e a 5 = 2 → (σ.2 9 D = 4 ∨ σ.2 9 D = 5 ∨ σ.2 9 D = 6 ∨ σ.2 9 D = 7 ∨ σ.2 9 D = 9 → (isV Y = true ∧ VN σ t Y) ∧ DV A e (YNG e p) Y y []) → (σ.2 9 D = 13 ∨ σ.2 9 D = 14 → y = 2) → (σ.2 9 D = 4 ∨ σ.2 9 D = 5 ∨ σ.2 9 D = 6 ∨ σ.2 9 D = 7 ∨ σ.2 9 D = 9 ∨ σ.2 9 D = 13 ∨ σ.2 9 D = 14) → ck iv L h0 (3 * n + 11) 244 [vr 176, vr (fR e a 5), vi z] e (qa fun r s => (kl s 176 = 11) ∧ ((fI s 176 4 ≠ (-1) → F 2 s) ∧ (fI s 176 4 = (-1) → (kl s a = 10) ∧ ck iv L h0 (3 * n + 11) 239 [vr 176, vr (fR s a 2), vr x, vr y, vr r, vi z] s (qa fun r12 s11 => F r12 s11)))) := fun hE h5 hY hy hso => by
    rw [h5]
    subst hE
    rw [optE_n, bnR_rok] at hF
    refine nosights_c hD hS.1 ⟨w1, fun w => absurd hS.2.2.1.2.2.2.1 w, fun _ => ⟨ha.2, ?_⟩⟩
    rw [ha2]
    exact dact_c (E := .null) (l := []) hD hW hS hk hz hDt (by omega) hx (fun q => hY (by omega)) (fun q => hy (by omega)) (fun q => by omega) hF
  rcases hc with ⟨so, hY, hy, hE, h5⟩ | ⟨so, hy, hE, hcv, hVE, l, hl1, hl2⟩ | ⟨so, hy, hE, h5⟩
  · exact nos hE h5 (fun _ => ⟨hY, hy⟩) (fun q => by omega) (by omega)
  · have Enn : E ≠ .null := fun q => by rw [q] at hE; exact hE.elim
    obtain ⟨y1, y2, y3⟩ := env_ok (EV_okO (most := most) hD hFN n) 26 E st hE hVE hst.2.1
    rw [optE_v Enn] at hF
    refine sights_c hD hFN hO hS ⟨by omega, by omega⟩ hz hE hVE ⟨hl1, hl2⟩ (fun r e2 h => ?_)
    have h4 := h.1.2.2.1.2.1
    obtain ⟨u1, u2, u3, u4, -⟩ := h.1.2.1.1.1.v ha.1 ha.2
    have hx2 := hS.1.tr h.1.1.1
    generalize envE (EV σ most n).2 E st = R at *
    by_cases g0 : R.2.1 = 0
    · obtain ⟨z1, z2, z3, z4⟩ := y3 g0
      rw [bnR_0 g0] at hF
      obtain ⟨l', hc, hd⟩ := h.2 g0
      have S2 : DWS c0 p most R.1 (kv - 0) (ks - 0) e2 := hS.nx (hD.fx hS.1) (R := (R.1, R.2.1, R.2.2.1, .null)) h.1 y1 ⟨g0, z1⟩
      have h4 : fI e2 176 4 = -1 := by rw [h4]; exact if_pos g0
      refine ⟨(hD.wk hx2).1, fun w => absurd h4 w, fun _ => ⟨u2, ?_⟩⟩
      rw [u4, ha2]
      exact dact_c (l := l') hD hW S2 ⟨by omega, by omega⟩ hz hDt (by omega) ⟨hx.1, DV_up h.1.2.1.1.2 _ X x [] (Nat.lt_succ_self _) hx.2⟩ (fun q => by omega) (fun q => hy) (fun _ => ⟨⟨z2, z3, fun z z0 z1 hz q => hcv z z0 z1 hz (z4 z q)⟩, hc, hd⟩) (fun a' e' h' => hF a' e' ((h.1.tr g0 h').up (by decide) (by decide) (by decide)))
    · rw [bnR_n g0] at hF
      have hs := h.stop g0
      have h4 : fI e2 176 4 = R.2.1 := by rw [h4]; exact if_neg g0
      refine ⟨(hD.wk hx2).1, fun _ => ?_, fun w => by have := y2.resolve_left g0; omega⟩
      have er : r = 2 := hs.2.2.2.2.2 g0
      subst er
      exact hF 2 e2 (hs.up (by decide) (by decide) (by decide))
  · exact nos hE h5 (fun q => by omega) (fun _ => hy) (by omega)
/-- a pair gone on with -/
theorem don3_c {z : Int} {F : Nat → SC → Prop} (hD : DWX A c0 σ t p) (hFN : FN σ t) (hO : OCD iv L h0 A c0 σ t p most n) (hS : DWS c0 p most st kv ks c) (hk : 1 ≤ kv ∧ 1 ≤ ks) (hz : z = 60 - n) (hV : VO σ t (.add X Y)) (hv : DV A c (LIV c p) (.add X Y) a []) (hF : ∀ a e, DWP A p 1 0 1 c st (oplE (σ.2 9) (σ.2 10) (σ.2 14) (σ.2 42) (EV σ most n).1 (EV σ most n).2 (.add X Y) st) a e → F a e) : ck iv L h0 (3 * n + 12) 243 [vr 176, vr a, vi z] c (qa F) := by
  have hcx := hS.1
  obtain ⟨w1, w2, w3⟩ := hD.wk hcx
  have hst := hS.2.2.2.1
  obtain ⟨⟨⟨h1, h1'⟩, h2⟩, h3, h4, h5⟩ := hv
  obtain ⟨⟨v1, v2⟩, v3, v4⟩ := hV
  obtain ⟨r1, r2, r3⟩ := EV_okO (most := most) hD hFN n X st v1 v2 hst.2.1
  have hF : ∀ a e, DWP A p 1 0 1 c st (bnR ((EV σ most n).2 X st) (fun st x => bnR ((EV σ most n).2 Y st) (fun st y => rok st (.add x y)))) a e → F a e := hF
  subst hz
  refine C243 ⟨h1', w1, ck_mono (hO X st c _ v1 v2 h4 (hS.up (by omega) (by omega))) (by omega) (fun x e h => ?_)⟩
  have hne := h.ne (fun q => (r3 q).2.1)
  obtain ⟨u1, u2, u3, u4, u5, u6, u7⟩ := h.2.1.1.1.v h1 h1'
  generalize (EV σ most n).2 X st = R at *
  by_cases g0 : R.2.1 = 0
  · obtain ⟨x1, x2, x3⟩ := r3 g0
    rw [bnR_0 g0] at hF
    have S2 := hS.nx (hD.fx hcx) h r1 ⟨g0, x1⟩
    have hy2 := DV_up h.2.1.1.1 _ Y _ [] (Nat.lt_succ_self _) h5
    have hxa := hne.mp g0
    refine ⟨fun w => absurd w hxa, fun _ => ⟨u2, fun _ => ⟨(hD.wk S2.1).1, ?_⟩, fun w => ?_⟩⟩
    · rw [u6]
      obtain ⟨s1, s2, s3⟩ := EV_okO (most := most) hD hFN n Y R.1 v3 v4 r1.2
      refine ck_mono (hO Y R.1 e _ v3 v4 hy2 (S2.up (by omega) (by omega))) (by omega) (fun y e2 h' => ⟨fun w => absurd w hxa, fun _ => ?_⟩)
      have hne' := h'.ne (fun q => (s3 q).2.1)
      obtain ⟨o1, o2, o3, o4, o5, o6, o7⟩ := h'.2.1.1.1.v u1 u2
      generalize (EV σ most n).2 Y R.1 = R1 at *
      refine ⟨o2, fun w => ?_, fun _ => ?_⟩
      · rw [o6, u6] at w
        exact absurd w (DV_neL v3 h5)
      · by_cases g1 : R1.2.1 = 0
        · obtain ⟨z1, z2, z3⟩ := s3 g1
          rw [bnR_0 g1] at hF
          have S3 := S2.nx (hD.fx S2.1) h' s1 ⟨g1, z1⟩
          refine ⟨fun _ => ⟨fun w => absurd (o3.trans (u3.trans h2)) w, fun _ => ⟨fun _ => ⟨(hD.wk S3.1).1, ?_⟩, fun w => absurd w (hne'.mp g1)⟩⟩, fun w => absurd w (hne'.mp g1)⟩
          rw [S3.2.2.1.1]
          exact ⟨(hD.wk S3.1).2.1, dadd_c hD S3 (by omega) x2 z2 (DV_up h'.2.1.1.2 _ _ x [] (Nat.lt_succ_self _) (h.2.2.2.2.1 g0)) (h'.2.2.2.2.1 g1) (fun a' e' h'' => hF a' e' (((h.tr g0 h').tr g1 h'').up (by decide) (by decide) (by decide)))⟩
        · rw [bnR_n g1] at hF
          have ea : y = 2 := h'.2.2.2.2.2 g1
          subst ea
          exact ⟨fun w => absurd rfl w, fun _ => hF 2 e2 ((h.tr g0 h').up (by decide) (by decide) (by decide))⟩
    · rw [u6] at w
      exact absurd w (DV_neL v3 h5)
  · rw [bnR_n g0] at hF
    have ea : x = 2 := h.2.2.2.2.2 g0
    subst ea
    exact ⟨fun _ => ⟨fun _ => hF 2 e (h.up (by decide) (by decide) (by decide)), fun w => absurd rfl w⟩, fun w => absurd rfl w⟩
/-- an act gone on with -/
theorem don7_c {z : Int} {D : Nat} {F : Nat → SC → Prop} (hD : DWX A c0 σ t p) (hFN : FN σ t) (hW : WCD iv L h0 A c0 σ t p most n) (hO : OCD iv L h0 A c0 σ t p most n) (hS : DWS c0 p most st kv ks c) (hk : 1 ≤ kv ∧ 1 ≤ ks) (hz : z = 60 - n) (hV : VO σ t (.rem (.index D) (.elem X (.elem Y E)))) (hv : DV A c (LIV c p) (.rem (.index D) (.elem X (.elem Y E))) a []) (hF : ∀ a e, DWP A p 1 0 1 c st (oplE (σ.2 9) (σ.2 10) (σ.2 14) (σ.2 42) (EV σ most n).1 (EV σ most n).2 (.rem (.index D) (.elem X (.elem Y E))) st) a e → F a e) : ck iv L h0 (3 * n + 12) 243 [vr 176, vr a, vi z] c (qa F) := by
  have hcx := hS.1
  obtain ⟨w1, w2, w3⟩ := hD.wk hcx
  have hst := hS.2.2.2.1
  obtain ⟨⟨⟨h1, h1'⟩, h2⟩, h2', h3, h4, h5, h5', h6⟩ := hv
  obtain ⟨⟨v0, v1, v2⟩, hcase⟩ := hV
  obtain ⟨r1, r2, r3⟩ := EV_okO (most := most) hD hFN n X st v1 v2 hst.2.1
  have hF : ∀ a e, DWP A p 1 0 1 c st (bnR ((EV σ most n).2 X st) (fun st x => bnR (optE (fun B => (EV σ most n).2 B st) st Y) (fun st y => bnR (optE (fun E => envE (EV σ most n).2 E st) st E) (fun st F => actE (σ.2 9) (σ.2 10) (σ.2 14) (EV σ most n).1 D x y F st)))) a e → F a e := hF
  have hO' := hO
  subst hz
  refine C243 ⟨h1', w1, ck_mono (hO X st c _ v1 v2 h4 (hS.up (by omega) (by omega))) (by omega) (fun x e h => ?_)⟩
  have hne := h.ne (fun q => (r3 q).2.1)
  obtain ⟨u1, u2, u3, u4, u5, u6, u7⟩ := h.2.1.1.1.v h1 h1'
  generalize (EV σ most n).2 X st = R at *
  have kn : ∀ {e : SC}, fI e a 0 = fI c a 0 → fI e a 0 ≠ 3 := fun q => by rw [q, h2]; decide
  by_cases g0 : R.2.1 = 0
  · obtain ⟨x1, x2, x3⟩ := r3 g0
    rw [bnR_0 g0] at hF
    have S2 := hS.nx (hD.fx hcx) h r1 ⟨g0, x1⟩
    have hxa := hne.mp g0
    have vx := h.2.2.2.2.1 g0
    have k7 := kn u3
    have sc : E ≠ .null → ∃ l, CHN e (LIV e p) (fR e a 5) l ∧ DV A e (LIV e p) E 2 l := fun q => by
      obtain ⟨l, q1, q2⟩ := (h6.resolve_left (fun w => q w.1)).2
      exact ⟨l, by rw [u7]; exact CHN.up h.2.1.1.1 l _ q1, DV_up h.2.1.1.1 _ E 2 l (Nat.lt_succ_self _) q2⟩
    refine ⟨fun w => absurd w hxa, fun _ => ⟨u2, fun w4 => ⟨(hD.wk S2.1).1, ?_⟩, fun w4 => ⟨fun w => absurd w hxa, fun _ => ⟨fun _ => ⟨fun _ => ⟨(hD.wk S2.1).1, ?_⟩, fun w => absurd w k7⟩, fun w => absurd w4 w⟩⟩⟩⟩
    · rw [u6] at w4 ⊢
      have hYn : Y ≠ .null := fun w => w4 (h5.mp w)
      obtain ⟨so, B1, B2, hEn⟩ : (σ.2 9 D = 4 ∨ σ.2 9 D = 5 ∨ σ.2 9 D = 6 ∨ σ.2 9 D = 7 ∨ σ.2 9 D = 9) ∧ isV Y = true ∧ VO σ t Y ∧ E = .null := by
        rcases hcase with q | ⟨-, q, -⟩ | ⟨-, q, -⟩
        · exact q
        · exact absurd q hYn
        · exact absurd q hYn
      have g5 : fR c a 5 = 2 := (h6.resolve_right (fun w => w.1 hEn)).2
      have hy2 := DV_up h.2.1.1.1 _ Y _ [] (Nat.lt_succ_self _) (h5' hYn)
      obtain ⟨s1, s2, s3⟩ := EV_okO (most := most) hD hFN n Y R.1 B1 B2 r1.2
      refine ck_mono (hO Y R.1 e _ B1 B2 hy2 (S2.up (by omega) (by omega))) (by omega) (fun y e2 h' => ⟨fun w => absurd w hxa, fun _ => ?_⟩)
      have hne' := h'.ne (fun q => (s3 q).2.1)
      obtain ⟨o1, o2, o3, o4, o5, o6, o7⟩ := h'.2.1.1.1.v u1 u2
      rw [optE_v hYn] at hF
      generalize (EV σ most n).2 Y R.1 = R1 at *
      refine ⟨o2, fun w => ?_, fun _ => ?_⟩
      · rw [o6, u6] at w
        exact absurd w w4
      · by_cases g1 : R1.2.1 = 0
        · obtain ⟨z1, z2, z3⟩ := s3 g1
          rw [bnR_0 g1] at hF
          have S3 := S2.nx (hD.fx S2.1) h' s1 ⟨g1, z1⟩
          refine ⟨fun _ => ⟨fun _ => ⟨(hD.wk S3.1).1, ?_⟩, fun w => absurd w (kn (o3.trans u3))⟩, fun w => absurd w (hne'.mp g1)⟩
          exact rest_c hD hFN hW hO' S3 ⟨by omega, by omega⟩ rfl v0 ⟨⟨x2, x3⟩, DV_up h'.2.1.1.2 _ _ x [] (Nat.lt_succ_self _) vx⟩ ⟨o1, o2⟩ (o4.trans (u4.trans h2')) (Or.inl ⟨so, ⟨z2, z3⟩, h'.2.2.2.2.1 g1, hEn, o7.trans (u7.trans g5)⟩) (fun a' e' h'' => hF a' e' (((h.tr g0 h').tr g1 h'').up (by decide) (by decide) (by decide)))
        · rw [bnR_n g1] at hF
          have ea : y = 2 := h'.2.2.2.2.2 g1
          subst ea
          exact ⟨fun w => absurd rfl w, fun _ => hF 2 e2 ((h.tr g0 h').up (by decide) (by decide) (by decide))⟩
    · rw [u6] at w4
      have hYn : Y = .null := h5.mpr w4
      subst hYn
      rw [optE_n, bnR_rok] at hF
      refine rest_c (Y := .null) hD hFN hW hO' S2 ⟨by omega, by omega⟩ rfl v0 ⟨⟨x2, x3⟩, vx⟩ ⟨u1, u2⟩ (u4.trans h2') ?_ (fun a' e' h'' => hF a' e' ((h.tr g0 h'').up (by decide) (by decide) (by decide)))
      rcases hcase with ⟨-, q, -⟩ | ⟨so, -, E1, E2, E3⟩ | ⟨so, -, hEn⟩
      · exact absurd rfl (isV_nn q)
      · exact Or.inr (Or.inl ⟨so, rfl, E1, E2, E3, sc (fun w => by rw [w] at E1; exact E1.elim)⟩)
      · exact Or.inr (Or.inr ⟨so, rfl, hEn, u7.trans (h6.resolve_right (fun w => w.1 hEn)).2⟩)
  · rw [bnR_n g0] at hF
    have ea : x = 2 := h.2.2.2.2.2 g0
    subst ea
    exact ⟨fun _ => ⟨fun _ => hF 2 e (h.up (by decide) (by decide) (by decide)), fun w => absurd rfl w⟩, fun w => absurd rfl w⟩
end
end
section
/-! Going on by the desk: every value, by levels (C241). -/
section
variable {iv : List (Int × Int)} {L : Nat} {h0 : MH} {A A' : Int → Nat} {P : Nat → Prop} {c c0 e f : SC} {σ s s' w : SM} {t : Term} {d p a g x y n : Nat} {b most st kv ks kv' ks' k0 k1 k q : Int} {ys : List (Nat × Nat)} {rs : List Nat} {R : RS} {X Y E V : Term} {l : List (Int × Nat)}
theorem OCD_all (hD : DWX A c0 σ t p) (hFN : FN σ t) (hL : FLK A c0 σ t) : ∀ n : Nat, n ≤ 60 → OCD iv L h0 A c0 σ t p most n := by
  intro n
  induction n with
  | zero =>
    intro _ V st c a hv hV hd hS
    obtain ⟨w1, w2, w3⟩ := hD.wk hS.1
    show ck iv L h0 (9 + 1) 241 [vr 176, vr a, vi 60] c _
    refine C241 ⟨w1, dspent_c hD hS (fun _ => ⟨fun w => (by cases w), fun _ => ⟨w1, ?_⟩⟩) (fun _ w => by omega)⟩
    exact dstop_c hD hS (by decide) (fun e h => (h.sp (k0' := -1) (by show (4 : Int) ≠ 0; decide)).up (by decide) (by decide) (by decide))
  | succ n ih =>
    intro hn V st c a hv hV hd hS
    have hcx := hS.1
    obtain ⟨w1, w2, w3⟩ := hD.wk hcx
    have ev : ∀ R : RS, R = (EV σ most (n + 1)).2 V st → R = if st = most then rst st 4 (-9) else oplE (σ.2 9) (σ.2 10) (σ.2 14) (σ.2 42) (EV σ most n).1 (EV σ most n).2 V (st + 1) := fun R h => h
    have a3 := hS.2.2.1.2.2.1
    have a4 := hS.2.2.2.1
    have hW := WCD_all (iv := iv) (L := L) (h0 := h0) (most := most) hD n (by omega)
    have hO := ih (by omega)
    obtain ⟨⟨d1, d1'⟩, d2, d3⟩ := DV_kind hv hd
    rw [show 3 * (n + 1) + 10 = (3 * n + 12) + 1 by omega]
    refine C241 ⟨w1, dspent_c hD hS (fun q => ⟨fun w => (by cases w), fun _ => ⟨w1, ?_⟩⟩) (fun q1 q2 => ⟨fun _ => ⟨w1, by omega, d1', ?_⟩, fun w => absurd rfl w⟩)⟩
    · have evn := ev _ rfl
      rw [if_pos (by omega)] at evn
      rw [evn]
      exact dstop_c hD hS (by decide) (fun e h => (h.sp (k0' := -1) (by show (4 : Int) ≠ 0; decide)).up (by decide) (by decide) (by decide))
    · have evn := ev _ rfl
      rw [if_neg (by omega)] at evn
      rw [evn, d2, a3]
      obtain ⟨x1, x2, x3, x4⟩ := step_x hD hS (st + 1)
      have S1 := DWS.step hD hS q1
      have hd2 := DV_up x2.1 _ V a [] (Nat.lt_succ_self _) hd
      have lv : ∀ {R : RS} {a' : Nat} {e : SC}, DWP A p 1 0 1 (uI c 176 3 (st + 1)) (st + 1) R a' e → DWP A p 0 (-1) 1 c st R a' e := fun h => (DWP.lev hD hS h).up (by decide) (by decide) (by decide)
      have hp := hS.2.2.1.1
      have pl : ∀ (k N : Int) (W : Term), W = V → (∀ (S1 : DWS c0 p most (st + 1) 2 1 (uI c 176 3 (st + 1))) (F : Nat → SC → Prop), (∀ a' e, DWP A p 1 0 0 (uI c 176 3 (st + 1)) (st + 1) (rok (st + 1) W) a' e → F a' e) → ck iv L h0 (3 * n + 10 + 2) 196 [vr p, vi k, vi N] (uI c 176 3 (st + 1)) (qa F)) → (∀ {st' : Int}, oplE (σ.2 9) (σ.2 10) (σ.2 14) (σ.2 42) (EV σ most n).1 (EV σ most n).2 V st' = rok st' V) → ck iv L h0 (3 * n + 12) 196 [vr p, vi k, vi N] (uI c 176 3 (st + 1)) (qa fun r s => DWP A p 0 (-1) 1 c st (oplE (σ.2 9) (σ.2 10) (σ.2 14) (σ.2 42) (EV σ most n).1 (EV σ most n).2 V (st + 1)) r s) := fun k N W hW h1 h2 => by
        subst hW
        rw [h2]
        exact h1 S1 _ (fun a' e h => lv (h.up (by decide) (by decide) (by decide)))
      have n1 : fI c a 1 = fI c a 1 := rfl
      refine ⟨fun q => ⟨by omega, ?_⟩, fun q => ⟨by omega, ?_⟩, fun q => ⟨by show kl c (fR c 176 0) = 6; rw [hp]; exact w2, ?_⟩, fun q => ⟨by omega, ?_⟩⟩
      · -- holes and DEFs
        cases V with
        | sub b E =>
          cases b with
          | index b => exact don2_c hD hFN hL hW hO S1 ⟨by decide, by decide⟩ (by omega) (Or.inl rfl) hV hd2 (fun a' e h => lv h)
          | _ => cases hv
        | div b E =>
          cases b with
          | index b => exact don2_c hD hFN hL hW hO S1 ⟨by decide, by decide⟩ (by omega) (Or.inr rfl) hV hd2 (fun a' e h => lv h)
          | _ => cases hv
        | int _ => exfalso; revert q; show (0 : Int) = 2 ∨ (0 : Int) = 4 → False; decide
        | arg _ => exfalso; revert q; show (1 : Int) = 2 ∨ (1 : Int) = 4 → False; decide
        | add _ _ => exfalso; revert q; show (3 : Int) = 2 ∨ (3 : Int) = 4 → False; decide
        | index _ => exfalso; revert q; show (5 : Int) = 2 ∨ (5 : Int) = 4 → False; decide
        | length _ => exfalso; revert q; show (6 : Int) = 2 ∨ (6 : Int) = 4 → False; decide
        | rem _ _ => exfalso; revert q; show (7 : Int) = 2 ∨ (7 : Int) = 4 → False; decide
        | _ => cases hv
      · cases V with
        | add X Y => exact don3_c hD hFN hO S1 ⟨by decide, by decide⟩ (by omega) hV hd2 (fun a' e h => lv h)
        | rem b z =>
          cases b with
          | index b =>
            cases z with
            | elem X z =>
              cases z with
              | elem Y E => exact don7_c hD hFN hW hO S1 ⟨by decide, by decide⟩ (by omega) hV hd2 (fun a' e h => lv h)
              | _ => cases hv
            | _ => cases hv
          | _ => cases hv
        | int _ => exfalso; revert q; show (0 : Int) = 3 ∨ (0 : Int) = 7 → False; decide
        | arg _ => exfalso; revert q; show (1 : Int) = 3 ∨ (1 : Int) = 7 → False; decide
        | sub _ _ => exfalso; revert q; show (2 : Int) = 3 ∨ (2 : Int) = 7 → False; decide
        | div _ _ => exfalso; revert q; show (4 : Int) = 3 ∨ (4 : Int) = 7 → False; decide
        | index _ => exfalso; revert q; show (5 : Int) = 3 ∨ (5 : Int) = 7 → False; decide
        | length _ => exfalso; revert q; show (6 : Int) = 3 ∨ (6 : Int) = 7 → False; decide
        | _ => cases hv
      · show ck iv L h0 (3 * n + 12) 196 [vr (fR c 176 0), vi _, vi (fI c a 1)] _ _
        rw [hp]
        cases V with
        | int z =>
          have v1 : fI c a 1 = z.toInt := hd.2.1
          have hz : inR z.toInt := ⟨Int32.le_toInt z, by have := Int32.toInt_lt z; omega⟩
          rw [v1]
          refine pl 0 z.toInt (.int (Int32.ofInt z.toInt)) (by rw [Int32.ofInt_toInt]) (fun S1 F hF => dint_c hD S1 (by decide) hz hF) rfl
        | arg z =>
          have v1 : fI c a 1 = (z : Int) := hd.2.1
          rw [v1]
          exact pl 1 z (.arg (z : Int).toNat) (by rw [Int.toNat_natCast]) (fun S1 F hF => darg_c hD S1 (by decide) (by omega) hF) rfl
        | index z =>
          have v1 : fI c a 1 = (z : Int) := hd.2.1
          rw [v1]
          exact pl 5 z (.index (z : Int).toNat) (by rw [Int.toNat_natCast]) (fun S1 F hF => dindex_c hD S1 (by decide) (by omega) hF) rfl
        | add _ _ => exfalso; revert q; show (3 : Int) = 5 ∨ (3 : Int) < 2 ∨ 7 < (3 : Int) → False; decide
        | sub _ _ => exfalso; revert q; show (2 : Int) = 5 ∨ (2 : Int) < 2 ∨ 7 < (2 : Int) → False; decide
        | div _ _ => exfalso; revert q; show (4 : Int) = 5 ∨ (4 : Int) < 2 ∨ 7 < (4 : Int) → False; decide
        | length _ => exfalso; revert q; show (6 : Int) = 5 ∨ (6 : Int) < 2 ∨ 7 < (6 : Int) → False; decide
        | rem _ _ => exfalso; revert q; show (7 : Int) = 5 ∨ (7 : Int) < 2 ∨ 7 < (7 : Int) → False; decide
        | _ => cases hv
      · cases V with
        | length X =>
          obtain ⟨v1, v2⟩ := hV
          obtain ⟨-, -, g3⟩ := hd2
          obtain ⟨r1, r2, r3⟩ := EV_okO (most := most) hD hFN n X (st + 1) v1 v2 (by omega)
          have e0 : oplE (σ.2 9) (σ.2 10) (σ.2 14) (σ.2 42) (EV σ most n).1 (EV σ most n).2 (.length X) (st + 1) = bnR ((EV σ most n).2 X (st + 1)) (fun st x => rok st (.length x)) := rfl
          rw [e0, show 60 - ((n + 1 : Nat) : Int) + 1 = 60 - (n : Int) by omega]
          refine ck_mono (hO X (st + 1) _ _ v1 v2 g3 (S1.up (by decide) (by decide))) (by omega) (fun x e h => ?_)
          have hne := h.ne (fun q => (r3 q).2.1)
          generalize (EV σ most n).2 X (st + 1) = R at *
          by_cases g0 : R.2.1 = 0
          · obtain ⟨z1, z2, z3⟩ := r3 g0
            rw [bnR_0 g0]
            have S2 := S1.nx (hD.fx S1.1) h r1 ⟨g0, z1⟩
            refine ⟨fun _ => ⟨(hD.wk S2.1).1, ?_⟩, fun w => absurd w (hne.mp g0)⟩
            rw [S2.2.2.1.1]
            exact ⟨(hD.wk S2.1).2.1, dlen_c hD S2 (by omega) (h.2.2.2.2.1 g0) (fun a' e' h' => lv ((h.tr g0 h').up (by decide) (by decide) (by decide)))⟩
          · rw [bnR_n g0]
            have ea : x = 2 := h.2.2.2.2.2 g0
            subst ea
            exact ⟨fun w => absurd rfl w, fun _ => lv (h.up (by decide) (by decide) (by decide))⟩
        | int _ => exfalso; revert q; show (0 : Int) = 6 → False; decide
        | arg _ => exfalso; revert q; show (1 : Int) = 6 → False; decide
        | sub _ _ => exfalso; revert q; show (2 : Int) = 6 → False; decide
        | add _ _ => exfalso; revert q; show (3 : Int) = 6 → False; decide
        | div _ _ => exfalso; revert q; show (4 : Int) = 6 → False; decide
        | index _ => exfalso; revert q; show (5 : Int) = 6 → False; decide
        | rem _ _ => exfalso; revert q; show (7 : Int) = 6 → False; decide
        | _ => cases hv
end
end
