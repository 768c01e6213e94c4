section
/-! Working by the desk: nodes (C234 to C238). -/
section
variable {iv : List (Int × Int)} {L : Nat} {h0 : MH} {A A' : Int → Nat} {P : Nat → Prop} {c c0 e f : SC} {σ s s' w : SM} {t : Term} {d p a g x y n : Nat} {b most st kv ks kv' ks' k0 k1 k q : Int} {ys : List (Nat × Nat)} {rs : List Nat} {R : RS} {X Y E : Term} {l : List (Int × Nat)}
theorem dtwo_c {z : Int} {F : Int → SC → Prop} (hz : 4 ≤ z ∧ z < 15 ∧ z ≠ 8 ∧ z ≠ 10) (h1 : pO z = 2 → F 1 c) (h2 : pO z ≠ 2 → F 0 c) : ck iv L h0 (d + 1) 237 [vi z] c (qi F) := by
  refine C237 ⟨fun q => h1 (by rw [q]; rfl), fun q => ⟨fun q2 => h1 (by rw [q2]; rfl), fun q2 => C238 ⟨fun q3 => by exfalso; omega, fun q3 => ⟨fun q4 => ?_, fun q4 => ?_⟩⟩⟩⟩
  · refine ⟨fun _ => h2 ?_, fun w => absurd rfl w⟩
    rcases (show z = 11 ∨ z = 13 ∨ z = 14 by omega) with e | e | e <;> rw [e] <;> decide
  · refine ⟨fun w => (by cases w), fun _ => h1 ?_⟩
    rcases (show z = 4 ∨ z = 5 ∨ z = 6 ∨ z = 7 by omega) with e | e | e | e <;> rw [e] <;> decide
theorem DWX.num (hD : DWX A c0 σ t p) : NB σ := hD.1.2.2.1
/-- the steps counted -/
theorem step_x (hD : DWX A c0 σ t p) (hS : DWS c0 p most st kv ks c) (z : Int) : CX wkY wkR c (uI c 176 3 z) ∧ (STY (LIV c p) (LIV (uI c 176 3 z) p) c (uI c 176 3 z) ∧ STY (YNG c p) (YNG (uI c 176 3 z) p) c (uI c 176 3 z)) ∧ PL2 (uI c 176 3 z) ∧ ∀ u v, ¬ (u = 176 ∧ v = 3) → fI (uI c 176 3 z) u v = fI c u v := by
  have hX := hD.fx hS.1
  obtain ⟨k1, k2, k3⟩ := hX.wk
  have hp : p ≠ 176 := by have := hD.2.1; omega
  have hk : ky 176 (kl c 176) = 11 := by rw [k1]; rfl
  have ei : ∀ u v, ¬ (u = 176 ∧ v = 3) → fI (uI c 176 3 z) u v = fI c u v := fun u v hu => by rw [fI_uI, if_neg (fun w => hu ⟨w.2, w.1⟩)]
  have hLv : ∀ u, LIV c p u → LIV (uI c 176 3 z) p u := fun u hu => LIV_eq (f := c) (e := uI c 176 3 z) rfl (fun v => ei p v (fun w => hp w.1)) (fun _ => rfl) u hu
  have hYv : ∀ u, YNG c p u → YNG (uI c 176 3 z) p u := yng_up hLv (fun q i hq hn => ⟨rfl, rfl⟩)
  exact ⟨CX.uI CX.rf (fun _ => by rw [hk]; decide), ⟨fun u hu => ⟨hLv u hu, fun _ => ⟨rfl, fun v _ => ⟨ei u v (by have := hu.1.1; omega), rfl⟩⟩⟩, fun u hu => ⟨hYv u hu, fun _ => ⟨rfl, fun v _ => ⟨ei u v (by have := hu.1.1.1; omega), rfl⟩⟩⟩⟩, PL2_eq hS.2.1 rfl (fun q v hq => ei q v (by omega)) (fun _ => rfl) (fun _ => rfl), ei⟩
theorem DWS.step (hD : DWX A c0 σ t p) (hS : DWS c0 p most st kv ks c) (h : st < most) : DWS c0 p most (st + 1) (kv + 2) (ks + 1) (uI c 176 3 (st + 1)) := by
  obtain ⟨x1, x2, x3, x4⟩ := step_x hD hS (st + 1)
  obtain ⟨a1, a2, a3, a4, a5, a6⟩ := id hS
  have hp : p ≠ 176 := by have := hD.2.1; omega
  refine ⟨a1.tr x1, x3, ⟨a3.1, ?_, ?_, ?_, ?_⟩, by omega, ?_, ?_⟩
  · rw [x4 176 2 (by decide)]; exact a3.2.1
  · rw [fI_uI, if_pos ⟨rfl, rfl⟩]
  · rw [x4 176 4 (by decide)]; exact a3.2.2.2.1
  · rw [x4 176 5 (by decide)]; exact a3.2.2.2.2
  · rw [x4 p 2 (fun w => hp w.1)]; omega
  · rw [x4 p 3 (fun w => hp w.1)]; omega
theorem DWP.lev (hD : DWX A c0 σ t p) (hS : DWS c0 p most st kv ks c) (h : DWP A p kv' k0 k1 (uI c 176 3 (st + 1)) (st + 1) R a e) : DWP A p (kv' - 2) (k0 - 1) (k1 - 1) c st R a e := by
  obtain ⟨x1, x2, x3, x4⟩ := step_x hD hS (st + 1)
  obtain ⟨a1, a2, a3, a4, a5, a6⟩ := h
  have hp : p ≠ 176 := by have := hD.2.1; omega
  rw [x4 p 2 (fun w => hp w.1), x4 p 3 (fun w => hp w.1)] at a4
  refine ⟨⟨x1.tr a1.1, RMP.rf.tr a1.2⟩, ⟨⟨x2.1.tr a2.1.1, x2.2.tr a2.1.2⟩, a2.2⟩, a3, ⟨by omega, ?_⟩, a5, a6⟩
  have := a4.2
  split at this <;> omega
theorem DWP.ne (h : DWP A p kv k0 k1 c st R a e) (hv : R.2.1 = 0 → isV R.2.2.2 = true) : (R.2.1 = 0 ↔ a ≠ 2) := by
  obtain ⟨a1, a2, a3, a4, a5, a6⟩ := h
  exact ⟨fun q => DV_ne (hv q) (a5 q), fun q => Classical.byContradiction fun w => q (a6 w)⟩
theorem EV_okd (hD : DWX A c0 σ t p) (n : Nat) : ∀ b E st, b ∈ fl t → isE 26 E → VN σ t E → cov σ b E → st ≤ most → RO σ t most st ((EV σ most n).1 b E st) := evw_okw hD.1.2.1 hD.1.2.2.1 hD.1.2.2.2 most n
/-- a name -/
theorem dname_c {F : Nat → SC → Prop} (hD : DWX A c0 σ t p) (hS : DWS c0 p most st kv ks c) (hk : 0 ≤ kv) (hb : b ∈ fl t) (hso : σ.2 9 b = 3) (hE : isE 26 E ∧ VN σ t E ∧ cov σ b E) (hg : CHN c (YNG c p) g l ∧ DV A c (YNG c p) E 2 l) (hF : ∀ a e, DWP A p 2 0 1 c st (frmE (σ.2 21) b (wplE (σ.2 9) (σ.2 10) (σ.2 14) (σ.2 21) (EV σ most n).1 b E st)) a e → F a e) : ck iv L h0 (d + 3) 235 [vr 176, vr (A b), vr g] c (qa F) := by
  have hcx := hS.1
  obtain ⟨w1, w2, w3⟩ := hD.wk hcx
  obtain ⟨⟨n1, n2, n3, n4, n5⟩, ⟨r1, r2, -⟩, -⟩ := hD.node hcx hb
  have hbl := hD.1.2.1.lt hb
  obtain ⟨m1, m2, m3, m4⟩ := hD.num b hbl.1 hbl.2.1
  have hnu := m2 (Or.inl hso)
  have hp := hS.2.2.1.1
  have ew : wplE (σ.2 9) (σ.2 10) (σ.2 14) (σ.2 21) (EV σ most n).1 b E st = rok st (if σ.2 21 b = 1 then .index (σ.2 10 b).toNat else lkE E (σ.2 10 b)) := by
    unfold wplE
    rw [if_neg (by omega), if_neg (by omega), if_neg (by omega), if_pos hso]
  rw [ew] at hF
  unfold frmE at hF
  refine C235 ⟨n1, ?_⟩
  rw [n5, n4, hp]
  have lk : (chf l (σ.2 10 b) = 2 ↔ lkE E (σ.2 10 b) = .null) ∧ (lkE E (σ.2 10 b) ≠ .null → DV A c (YNG c p) (lkE E (σ.2 10 b)) (chf l (σ.2 10 b)) []) := by
    obtain ⟨m, hm⟩ : ∃ m : Nat, σ.2 10 b = m := ⟨(σ.2 10 b).toNat, by omega⟩
    rw [hm]
    exact DV_lk 26 E hE.1 hg.2 m (Nat.zero_le _) (by omega)
  refine ⟨fun q => ⟨w1, ?_⟩, fun q => ⟨w1, w2, ?_⟩⟩
  · have hnn : lkE E (σ.2 10 b) ≠ .null := hE.2.2 _ hnu.1 hnu.2 (hD.1.2.2.2 b hb hso q)
    have hv : isV (lkE E (σ.2 10 b)) = true ∧ VN σ t (lkE E (σ.2 10 b)) := VN_lk E (σ.2 10 b) hE.2.1 hnn
    rw [if_neg q] at hF
    have hc2 : chf l (σ.2 10 b) ≠ 2 := fun w => hnn (lk.1.mp w)
    have hdv := lk.2 hnn
    refine seen_find_c (fun a h => by have := h.1.1.1; omega) hg.1 ⟨fun _ => ⟨n1, ?_⟩, fun w => absurd w hc2⟩
    rw [n5, hp]
    refine ⟨fun q2 => ⟨w1, w2, ?_⟩, fun q2 => ?_⟩
    · rw [if_pos (by omega), bnR_0 rfl] at hF
      exact dlen_c hD hS hk hdv (fun a e h => hF a e (h.up (by decide) (by decide) (by decide)))
    · rw [if_neg (by omega)] at hF
      exact hF _ c ⟨⟨CX.rf, RMP.rf⟩, ⟨⟨STY.rf, STY.rf⟩, hS.2.1⟩, ⟨hS.2.2.1.2.2.1, hS.2.2.1.2.2.2.1, hS.2.2.1.2.2.2.2⟩, ⟨by show fI c p 2 ≤ fI c p 2 + 2 * (st - st) + 2; omega, by show fI c p 3 ≤ fI c p 3 + (st - st) + 0; omega⟩, fun _ => hdv, fun w => absurd rfl w⟩
  · rw [if_pos q, if_neg (by omega)] at hF
    exact dindex_c hD hS hk hnu.1 (fun a e h => hF a e (h.up (by decide) (by decide) (by decide)))
/-- what is done at a node -/
theorem dnode_c {z : Int} {F : Nat → SC → Prop} (hD : DWX A c0 σ t p) (hW : WCD iv L h0 A c0 σ t p most n) (hS : DWS c0 p most st kv ks c) (hk : 1 ≤ kv ∧ 1 ≤ ks) (hz : z = 60 - n) (hb : b ∈ fl t) (hso : σ.2 9 b ≠ 3) (hE : isE 26 E ∧ VN σ t E ∧ cov σ b E) (hg : CHN c (YNG c p) g l ∧ DV A c (YNG c p) E 2 l) (hin : inR (σ.2 10 b)) (hF : ∀ a e, DWP A p 1 0 1 c st (wplE (σ.2 9) (σ.2 10) (σ.2 14) (σ.2 21) (EV σ most n).1 b E st) a e → F a e) : ck iv L h0 (3 * n + 12) 236 [vr 176, vr (A b), vr g, vi z] c (qa F) := by
  have hcx := hS.1
  have hT := hD.1.2.1
  have hN := hD.num
  have hXc := hD.fx hcx
  obtain ⟨w1, w2, w3⟩ := hD.wk hcx
  obtain ⟨⟨n1, n2, n3, n4, n5⟩, -, ⟨n6, n7, n8⟩, n9⟩ := hD.node hcx hb
  have hbl := hT.lt hb
  obtain ⟨m1, m2, m3, m4⟩ := hN b hbl.1 hbl.2.1
  have hp := hS.2.2.1.1
  have hk0 : 0 ≤ kv := by omega
  have ow := EV_okd (most := most) hD n
  unfold wplE at hF
  have prt : ∀ i, 0 ≤ i → i < pO (σ.2 9 b) → ¬ (σ.2 9 b = 8 ∨ (σ.2 9 b = 10 ∧ i = 1)) → σ.2 14 (3 * b + i) ∈ fl t ∧ cov σ (σ.2 14 (3 * b + i)) E := fun i i0 i1 hn => cov_part hT hb ⟨i0, i1⟩ hn hE.2.2
  have prt0 : 0 < pO (σ.2 9 b) → ¬ σ.2 9 b = 8 → (σ.2 14 (3 * b) ∈ fl t ∧ cov σ (σ.2 14 (3 * b)) E) ∧ aR c (A b + 1) 0 = A (σ.2 14 (3 * b)) := fun i1 hn => by
    have h1 := prt 0 (Int.le_refl 0) i1 (by omega)
    have h2 := n9 0 (Int.le_refl 0) i1
    rw [Int.add_zero] at h1 h2
    exact ⟨h1, h2⟩
  refine C236 ⟨n1, ?_⟩
  rw [n3, n4, n6, n7, n8, hp]
  refine ⟨fun q => ⟨w1, w2, ?_⟩, fun q => ⟨w1, w2, ?_⟩, fun q => ⟨w1, w2, ?_⟩, fun q => ?_, fun q => ⟨w1, w2, ?_⟩⟩
  · rw [if_pos q] at hF
    exact ddiv_c hD hS hk0 hbl.1 hg (fun a e h => hF a e (h.up (by decide) (by decide) (by decide)))
  · rw [if_neg (by omega), if_pos q] at hF
    exact dint_c hD hS hk0 hin (fun a e h => hF a e (h.up (by decide) (by decide) (by decide)))
  · rw [if_neg (by omega), if_neg (by omega), if_pos q] at hF
    exact darg_c hD hS hk0 (by have := m3 q; omega) (fun a e h => hF a e (h.up (by decide) (by decide) (by decide)))
  · -- parts
    rw [if_neg (by omega), if_neg (by omega), if_neg (by omega), if_neg (by omega), if_neg (by omega)] at hF
    have hp1 : 0 < pO (σ.2 9 b) := by
      rcases (show σ.2 9 b = 4 ∨ σ.2 9 b = 5 ∨ σ.2 9 b = 6 ∨ σ.2 9 b = 7 ∨ σ.2 9 b = 9 ∨ σ.2 9 b = 10 ∨ σ.2 9 b = 11 ∨ σ.2 9 b = 12 ∨ σ.2 9 b = 13 ∨ σ.2 9 b = 14 ∨ σ.2 9 b = 15 by omega) with e | e | e | e | e | e | e | e | e | e | e <;> rw [e] <;> decide
    obtain ⟨⟨p1, p2⟩, p3⟩ := prt0 hp1 (by omega)
    obtain ⟨r1, r2, r3⟩ := ow _ E st p1 hE.1 hE.2.1 p2 hS.2.2.2.1.2.1
    rw [p3]
    refine ⟨rfl, ⟨by decide, hp1⟩, w1, dwsub_c hW p1 ⟨hE.1, hE.2.1, p2⟩ hg hS ⟨by omega, by omega⟩ (by omega) hz (fun a e h => ?_)⟩
    have hne := h.ne (fun q => (r3 q).2.1)
    by_cases g0 : ((EV σ most n).1 (σ.2 14 (3 * b)) E st).2.1 = 0
    · obtain ⟨x1, x2, x3⟩ := r3 g0
      have S2 := hS.nx hXc h r1 ⟨g0, x1⟩
      have hXe := hD.fx S2.1
      obtain ⟨v1, v2, v3⟩ := hD.wk S2.1
      obtain ⟨⟨o1, o2, o3, o4, o5⟩, -, ⟨o6, o7, o8⟩, o9⟩ := hD.node S2.1 hb
      have vx := h.2.2.2.2.1 g0
      have hg2 : CHN e (YNG e p) g l ∧ DV A e (YNG e p) E 2 l := ⟨CHN.up h.2.1.1.2 l g hg.1, DV_up h.2.1.1.2 _ E 2 l (Nat.lt_succ_self _) hg.2⟩
      have pp := S2.2.2.1.1
      refine ⟨fun w => absurd w (hne.mp g0), fun _ => ⟨o1, ?_⟩⟩
      rw [o3, o4, o6, o7, o8, pp]
      refine ⟨fun q15 => ⟨fun q10 => ?_, fun q10 => ?_⟩, fun q15 => ?_⟩
      · rw [if_neg q15, if_neg q10, bnR_0 g0] at hF
        have act1 : pO (σ.2 9 b) ≠ 2 → ck iv L h0 (3 * n + 11) 239 [vr 176, vr (A b), vr a, vr 2, vr g, vi z] e (qa fun r s => F r s) := fun hq => by
          rw [if_neg hq] at hF
          refine dact_c (Y := .null) hD hW S2 ⟨by omega, by omega⟩ hz hb (by omega) ⟨⟨x2, x3⟩, vx⟩ (fun q3 => by exfalso; rcases q3 with q | q | q | q | q | q <;> rw [q] at hq <;> exact hq rfl) (fun _ => rfl) (fun _ => ⟨hE, hg2⟩) (fun a' e' h' => hF a' e' ((h.tr g0 h').up (by decide) (by decide) (by decide)))
        refine dtwo_c (by omega) (fun hq => ⟨fun w => (by cases w), fun _ => ⟨o1, ?_⟩⟩) (fun hq => ⟨fun _ => ⟨v1, act1 hq⟩, fun w => absurd rfl w⟩)
        rw [if_pos hq] at hF
        obtain ⟨p4, p5⟩ := prt 1 (by decide) (by omega) (by omega)
        obtain ⟨y1, y2, y3⟩ := ow _ E ((EV σ most n).1 (σ.2 14 (3 * b)) E st).1 p4 hE.1 hE.2.1 p5 r1.2
        rw [o6, o7, o8, o9 1 (by decide) (by omega), hq]
        refine ⟨rfl, ⟨by decide, by decide⟩, v1, dwsub_c hW p4 ⟨hE.1, hE.2.1, p5⟩ hg2 S2 ⟨by omega, by omega⟩ (by omega) hz (fun a' e' h' => ?_)⟩
        have hne' := h'.ne (fun q => (y3 q).2.1)
        by_cases g1 : ((EV σ most n).1 (σ.2 14 (3 * b + 1)) E ((EV σ most n).1 (σ.2 14 (3 * b)) E st).1).2.1 = 0
        · obtain ⟨z1, z2, z3⟩ := y3 g1
          rw [bnR_0 g1] at hF
          have S3 := S2.nx hXe h' y1 ⟨g1, z1⟩
          have vy := h'.2.2.2.2.1 g1
          have vx2 := DV_up h'.2.1.1.2 _ _ a [] (Nat.lt_succ_self _) vx
          have hg3 : CHN e' (YNG e' p) g l ∧ DV A e' (YNG e' p) E 2 l := ⟨CHN.up h'.2.1.1.2 l g hg2.1, DV_up h'.2.1.1.2 _ E 2 l (Nat.lt_succ_self _) hg2.2⟩
          refine ⟨fun _ => ⟨(hD.wk S3.1).1, ?_⟩, fun w => absurd w (hne'.mp g1)⟩
          refine dact_c hD hW S3 ⟨by omega, by omega⟩ hz hb (by omega) ⟨⟨x2, x3⟩, vx2⟩ (fun _ => ⟨⟨z2, z3⟩, vy⟩) (fun q3 => ?_) (fun _ => ⟨hE, hg3⟩) (fun a'' e'' h'' => hF a'' e'' (((h.tr g0 h').tr g1 h'').up (by decide) (by decide) (by decide)))
          exfalso
          rcases (show σ.2 9 b = 11 ∨ σ.2 9 b = 13 ∨ σ.2 9 b = 14 by omega) with q | q | q <;> rw [q] at hq <;> cases hq
        · rw [bnR_n g1] at hF
          have ea : a' = 2 := h'.2.2.2.2.2 g1
          subst ea
          exact ⟨fun w => absurd rfl w, fun _ => hF 2 e' ((h.tr g0 h').up (by decide) (by decide) (by decide))⟩
      · rw [if_neg q15, if_pos q10, bnR_0 g0] at hF
        have hnu := m2 (Or.inr (Or.inr q10))
        have hp2 : pO (σ.2 9 b) = 2 := by rw [q10]; rfl
        have cb := cov_bind hT hN (i := 1) hb (by rw [hp2]; decide) (Or.inr ⟨q10, rfl⟩) hE.1 (isV_nn x2) hE.2.2
        rw [o9 1 (by decide) (by rw [hp2]; decide), hp2]
        refine ⟨rfl, ⟨by decide, by decide⟩, v1, v2, ?_⟩
        refine bind_c hXe hD.2.1 (S2.sg (by omega)).1 (S2.sg (by omega)).2 (fun e2 a2 hw => ?_)
        obtain ⟨b1, b2, b3⟩ := dw_bind hD S2 hE.1 hg2 ⟨x2, vx⟩ (DV_ne x2 vx) hw
        have S3 := S2.nx hXe b1 ⟨Int.le_refl _, r1.2⟩ ⟨rfl, rfl⟩
        refine ⟨(hD.wk S3.1).1, dwsub_c hW cb.1 ⟨upE_is 26 _ _ _ hE.1, VN_up _ _ _ hE.2.1 x2 x3, cb.2⟩ ⟨b2, b3⟩ S3 ⟨by omega, by omega⟩ (by omega) hz (fun a' e' h' => hF a' e' (((h.tr g0 b1).tr rfl h').up (by decide) (by decide) (by decide)))⟩
      · rw [if_pos q15] at hF
        exact hF a e (h.up (by decide) (by decide) (by decide))
    · have ea : a = 2 := h.2.2.2.2.2 g0
      subst ea
      refine ⟨fun _ => hF 2 e ?_, fun w => absurd rfl w⟩
      rw [bnR_n g0, bnR_n g0]
      split
      · exact h.up (by decide) (by decide) (by decide)
      · split <;> exact h.up (by decide) (by decide) (by decide)
  · rw [if_neg (by omega), if_neg (by omega), if_neg (by omega), if_neg (by omega), if_pos q] at hF
    exact dsub_c hD hS hk0 hbl.1 hg (fun a e h => hF a e (h.up (by decide) (by decide) (by decide)))
end
end
section
/-! Working by the desk: every node, by levels. -/
section
variable {iv : List (Int × Int)} {L : Nat} {h0 : MH} {A A' : Int → Nat} {P : Nat → Prop} {c c0 e f : SC} {σ s s' w : SM} {t : Term} {d p a g x y n : Nat} {b most st kv ks kv' ks' k0 k1 k q : Int} {ys : List (Nat × Nat)} {rs : List Nat} {R : RS} {X Y E : Term} {l : List (Int × Nat)}
theorem dspent_c {z : Int} {F : Int → SC → Prop} (hD : DWX A c0 σ t p) (hS : DWS c0 p most st kv ks c) (h1 : st = most ∨ 60 ≤ z → F 1 c) (h0' : st < most → z < 60 → F 0 c) : ck iv L h0 d 233 [vr 176, vi z] c (qi F) := by
  obtain ⟨w1, w2, w3⟩ := hD.wk hS.1
  have e2 := hS.2.2.1.2.1
  have e3 := hS.2.2.1.2.2.1
  have e4 := hS.2.2.2.1
  refine C233 ⟨w1, ?_⟩
  rw [e2, e3]
  exact ⟨fun q => h1 (Or.inl (by omega)), fun q => ⟨fun q2 => h0' q q2, fun q2 => h1 (Or.inr q2)⟩⟩
theorem DWP.sp {k0' : Int} (h : DWP A p kv k0 k1 c st R a e) (hR : R.2.1 ≠ 0) : DWP A p kv k0' k1 c st R a e := by
  obtain ⟨a1, a2, a3, a4, a5, a6⟩ := h
  rw [if_neg hR] at a4
  exact ⟨a1, a2, a3, ⟨a4.1, by rw [if_neg hR]; exact a4.2⟩, a5, a6⟩
theorem WCD_all (hD : DWX A c0 σ t p) : ∀ n : Nat, n ≤ 60 → WCD iv L h0 A c0 σ t p most n := by
  intro n
  induction n with
  | zero =>
    intro _ b st E c g l hb hE hV hc hg1 hg2 hS
    obtain ⟨w1, w2, w3⟩ := hD.wk hS.1
    obtain ⟨⟨n1, n2, n3, n4, n5⟩, -⟩ := hD.node hS.1 hb
    show ck iv L h0 (9 + 1) 234 [vr 176, vr (A b), vr g, vi 60] c _
    refine C234 ⟨w1, dspent_c hD hS (fun _ => ⟨fun w => (by cases w), fun _ => ⟨n1, w1, ?_⟩⟩) (fun _ w => by omega)⟩
    rw [n2]
    exact dstop_c hD hS (by decide) (fun e h => (h.sp (k0' := -1) (by show (4 : Int) ≠ 0; decide)).up (by decide) (by decide) (by decide))
  | succ n ih =>
    intro hn b st E c g l hb hE hV hc hg1 hg2 hS
    have hcx := hS.1
    have hT := hD.1.2.1
    obtain ⟨w1, w2, w3⟩ := hD.wk hcx
    obtain ⟨⟨n1, n2, n3, n4, n5⟩, ⟨r1, r2, r3⟩, -⟩ := hD.node hcx hb
    have ev : ∀ R : RS, R = (EV σ most (n + 1)).1 b E st → R = if st = most then rst st 4 b else frmE (σ.2 21) b (wplE (σ.2 9) (σ.2 10) (σ.2 14) (σ.2 21) (EV σ most n).1 b E (st + 1)) := fun R h => h
    have a3 := hS.2.2.1.2.2.1
    have a4 := hS.2.2.2.1
    rw [show 3 * (n + 1) + 10 = (3 * n + 12) + 1 by omega]
    refine crs_ok (ci := 4) (y := 4) (by decide) (by decide) rfl (fun hR => ?_)
    have hin : inR (σ.2 10 b) := by have := hR _ n1; rw [n4] at this; exact this
    refine C234 ⟨w1, dspent_c hD hS (fun q => ⟨fun w => (by cases w), fun _ => ⟨n1, w1, ?_⟩⟩) (fun q1 q2 => ⟨fun _ => ⟨w1, by omega, n1, ?_⟩, fun w => absurd rfl w⟩)⟩
    · rw [n2]
      have evn := ev _ rfl
      rw [if_pos (by omega)] at evn
      rw [evn]
      exact dstop_c hD hS (by decide) (fun e h => (h.sp (k0' := -1) (by show (4 : Int) ≠ 0; decide)).up (by decide) (by decide) (by decide))
    · have evn := ev _ rfl
      rw [if_neg (by omega)] at evn
      rw [evn, n3, a3]
      obtain ⟨x1, x2, x3, x4⟩ := step_x hD hS (st + 1)
      have S1 := DWS.step hD hS q1
      have hgs : CHN (uI c 176 3 (st + 1)) (YNG (uI c 176 3 (st + 1)) p) g l ∧ DV A (uI c 176 3 (st + 1)) (YNG (uI c 176 3 (st + 1)) p) E 2 l := ⟨CHN.up x2.2 l g hg1, DV_up x2.2 _ E 2 l (Nat.lt_succ_self _) hg2⟩
      refine ⟨fun q => ⟨by omega, ?_⟩, fun q => ?_⟩
      · have hRO : RO σ t most (st + 1) (wplE (σ.2 9) (σ.2 10) (σ.2 14) (σ.2 21) (EV σ most n).1 b E (st + 1)) := work_ok1 hT hD.num hD.1.2.2.2 (most := most) (fun b E st h1 h2 h3 h4 h5 => EV_okd hD n b E st h1 h2 h3 h4 h5) hb hE hV hc (by omega)
        have hr1 : σ.2 21 b ≠ 1 := fun w => q (r3 w)
        have evf : frmE (σ.2 21) b (wplE (σ.2 9) (σ.2 10) (σ.2 14) (σ.2 21) (EV σ most n).1 b E (st + 1)) = if 1 < σ.2 21 b then bnR (wplE (σ.2 9) (σ.2 10) (σ.2 14) (σ.2 21) (EV σ most n).1 b E (st + 1)) (fun st x => rok st (.length x)) else wplE (σ.2 9) (σ.2 10) (σ.2 14) (σ.2 21) (EV σ most n).1 b E (st + 1) := rfl
        rw [evf]
        refine dnode_c hD (ih (by omega)) S1 ⟨by decide, by decide⟩ (by omega) hb q ⟨hE, hV, hc⟩ hgs hin (fun a e h => ?_)
        have hne := h.ne (fun q => (hRO.2.2 q).2.1)
        have hx1 := (x1.tr h.1.1)
        obtain ⟨⟨o1, o2, o3, o4, o5⟩, -⟩ := hD.node (hcx.tr hx1) hb
        by_cases g0 : (wplE (σ.2 9) (σ.2 10) (σ.2 14) (σ.2 21) (EV σ most n).1 b E (st + 1)).2.1 = 0
        · obtain ⟨v1, v2, v3⟩ := hRO.2.2 g0
          refine ⟨fun w => absurd w (hne.mp g0), fun _ => ⟨o1, ?_⟩⟩
          rw [o5]
          refine ⟨fun q3 => ?_, fun q3 => ?_⟩
          · rw [if_pos (by omega), bnR_0 g0]
            have S2 := S1.nx (hD.fx S1.1) h hRO.1 ⟨g0, v1⟩
            rw [S2.2.2.1.1]
            refine ⟨(hD.wk S2.1).1, (hD.wk S2.1).2.1, ?_⟩
            exact dlen_c hD S2 (by omega) (h.2.2.2.2.1 g0) (fun a' e' h' => (DWP.lev hD hS (h.tr g0 h')).up (by decide) (by decide) (by decide))
          · rw [if_neg (by omega)]
            exact (DWP.lev hD hS h).up (by decide) (by decide) (by decide)
        · have ea : a = 2 := h.2.2.2.2.2 g0
          subst ea
          refine ⟨fun _ => ?_, fun w => absurd rfl w⟩
          rw [bnR_n g0]
          split <;> exact (DWP.lev hD hS h).up (by decide) (by decide) (by decide)
      · exact dname_c hD S1 (by decide) hb q ⟨hE, hV, hc⟩ hgs (fun a e h => (DWP.lev hD hS h).up (by decide) (by decide) (by decide))
end
end
section
/-! Going on by the desk: what is seen (C244). -/
def OCD (iv : List (Int × Int)) (L : Nat) (h0 : MH) (A : Int → Nat) (c0 : SC) (σ : SM) (t : Term) (p : Nat) (most : Int) (n : Nat) : Prop := ∀ (V : Term) (st : Int) (c : SC) (a : Nat), isV V = true → VO σ t V → DV A c (LIV c p) V a [] → DWS c0 p most st 0 0 c → ck iv L h0 (3 * n + 10) 241 [vr 176, vr a, vi (60 - (n : Int))] c (qa (DWP A p 0 (-1) 1 c st ((EV σ most n).2 V st)))
/-- behind going on with what is seen -/
def DWE (A : Int → Nat) (p : Nat) (kv k0 k1 : Int) (c : SC) (st : Int) (R : RS) (a : Nat) (e : SC) : Prop := DWP A p kv k0 k1 c st (R.1, R.2.1, R.2.2.1, .null) a e ∧ (R.2.1 = 0 → ∃ l, CHN e (YNG e p) a l ∧ DV A e (YNG e p) R.2.2.2 2 l)
theorem chf_lt : ∀ (l : List (Int × Nat)) (x : Int), (∀ q, q ∈ l → q.1 < x) → chf l x = 2 := by
  intro l
  induction l with
  | nil => intro x _; rfl
  | cons q r ih =>
    intro x h
    have h1 := h q (List.mem_cons_self ..)
    rw [chf_c, if_neg (by omega)]
    exact ih x (fun z hz => h z (List.mem_cons_of_mem _ hz))
theorem DV_ext {A : Int → Nat} {c : SC} {P : Nat → Prop} {l : List (Int × Nat)} {x : Int} {a : Nat} : ∀ (n : Nat) (r : Term), isE n r → (n : Int) ≤ x → DV A c P r 2 l → DV A c P r 2 ((x, a) :: l) := by
  intro n
  induction n with
  | zero => intro r hr _ _; cases r <;> first | exact hr.elim | exact trivial
  | succ n ih =>
    intro r hr hx h
    cases r with
    | mul r y =>
      have hr : isE n r := hr
      have hl := isE_len n r hr
      obtain ⟨h1, h2, h3⟩ := h
      have e : chf ((x, a) :: l) (mlen r) = chf l (mlen r) := by rw [chf_c, if_neg (show ¬ x = (mlen r : Int) by omega)]
      exact ⟨ih r hr (by omega) h1, by rw [e]; exact h2, by rw [e]; exact h3⟩
    | _ => exact hr.elim
section
variable {iv : List (Int × Int)} {L : Nat} {h0 : MH} {A A' : Int → Nat} {P : Nat → Prop} {c c0 e f : SC} {σ s s' w : SM} {t : Term} {d p a g x y n : Nat} {b most st kv ks kv' ks' k0 k1 k q : Int} {ys : List (Nat × Nat)} {rs : List Nat} {R : RS} {X Y E : Term} {l : List (Int × Nat)}
theorem EV_okO (hD : DWX A c0 σ t p) (hFN : FN σ t) (n : Nat) : ∀ v st, isV v = true → VO σ t v → st ≤ most → RO σ t most st ((EV σ most n).2 v st) := (evw_ok hD.1.2.1 hD.1.2.2.1 hD.1.2.2.2 hFN most n).2
theorem sights_c {z : Int} {F : Nat → SC → Prop} (hD : DWX A c0 σ t p) (hFN : FN σ t) (hO : OCD iv L h0 A c0 σ t p most n) (hS : DWS c0 p most st kv ks c) (hk : 0 ≤ kv ∧ 0 ≤ ks) (hz : z = 60 - n) (hE : isE 26 E) (hV : VO σ t E) (hg : CHN c (LIV c p) g l ∧ DV A c (LIV c p) E 2 l) (hF : ∀ a e, DWE A p 0 0 1 c st (envE (EV σ most n).2 E st) a e → F a e) : ck iv L h0 (3 * n + 11) 244 [vr 176, vr g, vi z] c (qa F) := by
  subst hz
  have hst := hS.2.2.2.1
  have key : ∀ (m x : Nat), x + m = 26 → ∀ (r : Nat) (ci : SC) (l' : List (Int × Nat)), (envE (EV σ most n).2 (tkE m E) st).2.1 = 0 → DWP A p 0 0 1 c st ((envE (EV σ most n).2 (tkE m E) st).1, 0, -9, .null) r ci → CHN ci (YNG ci p) r l' → DV A ci (YNG ci p) (envE (EV σ most n).2 (tkE m E) st).2.2.2 2 l' → (∀ q, q ∈ l' → q.1 < (x : Int)) → wk iv L h0 (3 * n + 10 + 1) 244 5 [lr 176, lr g, li (60 - (n : Int)), lr r, li (x : Int)] [] ci (qa F) := by
    intro m
    induction m with
    | zero =>
      intro x hx r ci l' h1 h2 h3 h4 h5
      refine D244_5 ⟨fun _ => hF r ci ⟨?_, fun _ => ⟨l', h3, h4⟩⟩, fun w => by omega⟩
      obtain ⟨y1, y2, y3⟩ := env_ok (EV_okO hD hFN n) 26 E st hE hV hst.2.1
      have e0 : tkE 0 E = E := rfl
      rw [e0] at h1 h2
      have e9 := (y3 h1).1
      rw [h1, e9]
      exact h2
    | succ m ih =>
      intro x hx r ci l' h1 h2 h3 h4 h5
      have hEt : isE x (tkE (m + 1) E) := tkE_is (m + 1) x E (by rw [hx]; exact hE)
      have hVt : VO σ t (tkE (m + 1) E) := VN_tk (m + 1) E hV
      obtain ⟨y1, y2, y3⟩ := env_ok (EV_okO hD hFN n) x (tkE (m + 1) E) st hEt hVt hst.2.1
      obtain ⟨y4, y5, y6, y7⟩ := y3 h1
      have etk := tkE_s m x E (by rw [hx]; exact hE)
      have hSi := (hS.nx (hD.fx hS.1) h2 y1 ⟨rfl, rfl⟩).up (kv' := kv) (ks' := ks) (by omega) (by omega)
      have eE : envE (EV σ most n).2 (tkE m E) st = bnR (optE (fun x => (EV σ most n).2 x (envE (EV σ most n).2 (tkE (m + 1) E) st).1) (envE (EV σ most n).2 (tkE (m + 1) E) st).1 (lkE E x)) (fun st' y => rok st' (.mul (envE (EV σ most n).2 (tkE (m + 1) E) st).2.2.2 y)) := by
        rw [etk]
        show bnR (envE (EV σ most n).2 (tkE (m + 1) E) st) _ = _
        rw [bnR_0 h1]
      generalize envE (EV σ most n).2 (tkE (m + 1) E) st = R0 at *
      have hml := isE_len x _ y5
      have lk := DV_lk 26 E hE hg.2 x (Nat.zero_le _) (by omega)
      obtain ⟨w1, w2, w3⟩ := hD.wk hSi.1
      refine D244_5 ⟨fun w => by omega, fun _ => ⟨w1, seen_find_c (fun a h => by have := h.1.1; omega) (CHN.up h2.2.1.1.1 l g hg.1) ⟨fun q => ⟨by omega, ?_⟩, fun q => ⟨w1, ?_⟩⟩⟩⟩
      · -- nothing is seen
        have hn := lk.1.mp q
        rw [hn, optE_n, bnR_rok] at eE
        have := ih (x + 1) (by omega) r ci l' (by rw [eE]; rfl) (by rw [eE]; exact h2) h3 (by
          rw [eE]
          have ec : chf l' (mlen R0.2.2.2) = 2 := chf_lt l' _ (fun q hq => by rw [hml]; exact h5 q hq)
          exact ⟨h4, ⟨fun _ => rfl, fun _ => ec⟩, fun w => absurd rfl w⟩) (fun q hq => by have := h5 q hq; omega)
        exact this
      · have hnn : lkE E x ≠ .null := fun w => q (lk.1.mpr w)
        obtain ⟨v1, v2⟩ := VN_lk E x hV hnn
        have hdv := DV_up h2.2.1.1.1 _ _ _ [] (Nat.lt_succ_self _) (lk.2 hnn)
        obtain ⟨r1, r2, r3⟩ := EV_okO (most := most) hD hFN n (lkE E x) R0.1 v1 v2 y1.2
        rw [optE_v hnn] at eE
        refine ck_mono (hO (lkE E x) R0.1 ci _ v1 v2 hdv (hSi.up hk.1 hk.2)) (Nat.le_refl _) (fun a e h => ?_)
        have hne := h.ne (fun q => (r3 q).2.1)
        generalize (EV σ most n).2 (lkE E x) R0.1 = R1 at *
        by_cases g0 : R1.2.1 = 0
        · obtain ⟨x1, x2, x3⟩ := r3 g0
          rw [bnR_0 g0] at eE
          have S2 := hSi.nx (hD.fx hSi.1) h r1 ⟨g0, x1⟩
          obtain ⟨u1, u2, u3⟩ := hD.wk S2.1
          refine ⟨fun _ => ⟨u1, ?_⟩, fun w => absurd w (hne.mp g0)⟩
          rw [S2.2.2.1.1]
          refine ⟨u2, ?_⟩
          have e9 : ∃ D, 3 * n + 10 = D + 1 := ⟨3 * n + 9, by omega⟩
          obtain ⟨D, hDD⟩ := e9
          rw [hDD]
          refine bind_c (hD.fx S2.1) hD.2.1 (S2.sg (by omega)).1 (S2.sg (by omega)).2 (fun e2 a2 hw => ⟨by omega, ?_⟩)
          have vx := h.2.2.2.2.1 g0
          have h4' := DV_up h.2.1.1.2 _ _ 2 l' (Nat.lt_succ_self _) h4
          obtain ⟨b1, b2, b3⟩ := dw_bind hD S2 y5 ⟨CHN.up h.2.1.1.2 l' r h3, h4'⟩ ⟨x2, vx⟩ (DV_ne x2 vx) hw
          rw [← hDD]
          have hP : DWP A p 0 0 1 c st (R1.1, 0, -9, .null) a2 e2 := ((h2.tr rfl h).tr g0 b1).up (by decide) (by decide) (by decide)
          refine ih (x + 1) (by omega) a2 e2 (((x : Int), a) :: l') (by rw [eE]; rfl) (by rw [eE]; exact hP) b2 (by
            rw [eE]
            have ec : chf (((x : Int), a) :: l') (mlen R0.2.2.2) = a := by rw [chf_c, if_pos (by rw [hml])]
            have hup : STY (YNG e p) (YNG e2 p) e e2 := b1.2.1.1.2
            have vx2 := DV_up hup _ _ a [] (Nat.lt_succ_self _) vx
            exact ⟨DV_ext x _ y5 (Int.le_refl _) (DV_up hup _ _ 2 l' (Nat.lt_succ_self _) h4'), by rw [ec]; exact ⟨fun w => absurd w (DV_ne x2 vx), fun w => absurd w (isV_nn x2)⟩, fun _ => by rw [ec]; exact vx2⟩) (fun q hq => ?_)
          rcases List.mem_cons.mp hq with rfl | hq
          · show (x : Int) < ((x + 1 : Nat) : Int); omega
          · have := h5 q hq; omega
        · rw [bnR_n g0] at eE
          have ea : a = 2 := h.2.2.2.2.2 g0
          subst ea
          refine ⟨fun w => absurd rfl w, fun _ => hF 2 e ?_⟩
          rw [stopE m E (by rw [eE]; exact g0), eE]
          obtain ⟨t1, t2, t3, t4, t5, t6⟩ := (h2.tr rfl h).up (kv' := 0) (k0' := 0) (k1' := 1) (by decide) (by decide) (by decide)
          exact ⟨⟨t1, t2, t3, t4, fun _ => trivial, t6⟩, fun w => absurd w g0⟩
  have h26 := key 26 0 rfl 2 c []
  have e26 : ∀ (n : Nat) (E : Term), isE n E → tkE n E = .null := by
    intro n
    induction n with
    | zero => intro E h; cases E <;> first | exact h.elim | rfl
    | succ n ih => intro E h; cases E <;> first | exact h.elim | exact ih _ h
  rw [e26 26 E hE] at h26
  rw [show 3 * n + 11 = (3 * n + 10) + 1 by omega]
  refine D244 (h26 rfl ?_ rfl trivial (fun q hq => by cases hq))
  exact ⟨⟨CX.rf, RMP.rf⟩, ⟨⟨STY.rf, STY.rf⟩, hS.2.1⟩, ⟨hS.2.2.1.2.2.1, hS.2.2.1.2.2.2.1, hS.2.2.1.2.2.2.2⟩, ⟨by show fI c p 2 ≤ fI c p 2 + 2 * (st - st) + 0; omega, by show fI c p 3 ≤ fI c p 3 + (st - st) + 0; omega⟩, fun _ => trivial, fun w => absurd rfl w⟩
/-- nothing is seen at all -/
theorem nosights_c {z : Int} {F : Nat → SC → Prop} (hD : DWX A c0 σ t p) (hx : CX wkY wkR c0 c) (hF : F 2 c) : ck iv L h0 (3 * n + 11) 244 [vr 176, vr 2, vi z] c (qa F) := by
  obtain ⟨w1, w2, w3⟩ := hD.wk hx
  have key : ∀ (m : Nat) (i : Int), 0 ≤ i → i + m = 26 → wk iv L h0 (3 * n + 10 + 1) 244 5 [lr 176, lr 2, li z, lr 2, li i] [] c (qa F) := by
    intro m
    induction m with
    | zero => intro i i0 hi; exact D244_5 ⟨fun _ => hF, fun w => by omega⟩
    | succ m ih =>
      intro i i0 hi
      exact D244_5 ⟨fun w => by omega, fun _ => ⟨w1, seen_find_c (P := fun _ => False) (l := []) (fun a h => h.elim) rfl ⟨fun _ => ⟨by omega, ih (i + 1) (by omega) (by omega)⟩, fun w => absurd rfl w⟩⟩⟩
  rw [show 3 * n + 11 = (3 * n + 10) + 1 by omega]
  exact D244 (key 26 0 (by decide) (by decide))
end
end
section
/-! Going on by the desk: fillers, what is left (C190, C242). -/
/-- what filled a hole, as the desk links it -/
def FLK (A : Int → Nat) (c : SC) (σ : SM) (t : Term) : Prop := (∀ b, 0 ≤ b → b < σ.1 8 → 0 < σ.2 42 b → fR c (A b) 12 = A (σ.2 42 b - 1)) ∧ (∀ b, 0 ≤ b → b < σ.1 8 → σ.2 42 b = 0 ∨ (b < σ.2 42 b - 1 ∧ σ.2 42 b - 1 < σ.1 8)) ∧ ∀ b, b ∈ fl t → fR c (A b) 12 = 2
section
variable {iv : List (Int × Int)} {L : Nat} {h0 : MH} {A A' : Int → Nat} {P : Nat → Prop} {c c0 e f : SC} {σ s s' w : SM} {t : Term} {d p a g x y n : Nat} {b most st kv ks kv' ks' k0 k1 k q : Int} {ys : List (Nat × Nat)} {rs : List Nat} {R : RS} {X Y E V : Term} {l : List (Int × Nat)}
theorem DWX.any (h : DWX A c0 σ t p) (hx : CX wkY wkR c0 c) (hb : 0 ≤ b ∧ b < σ.1 8) : kl c (A b) = 5 ∧ fR c (A b) 12 = fR c0 (A b) 12 ∧ A b ≠ 2 := by
  obtain ⟨⟨⟨⟨hX, hN, hH, hL⟩, -, hI, hJ⟩, hT, -⟩, -, hj⟩ := h
  obtain ⟨⟨n1, n2, n3, n4, n5, n6, n7, n8⟩, n9, n10⟩ := hN.2 b hb.1 hb.2
  have k5 : ky (A b) (kl c0 (A b)) = 5 := by rw [ky5 n10]; exact n1
  have hl : A b < nxt c0 := by omega
  exact ⟨(hx.k hl).trans n1, hx.r hl (by rw [k5]; decide), by omega⟩
theorem fill_gt {fb : Int → Int} {B : Int} (h : ∀ b, 0 ≤ b → b < B → fb b = 0 ∨ (b < fb b - 1 ∧ fb b - 1 < B)) : ∀ (n : Nat) (b : Int), 0 ≤ b → b < B → b ≤ fllN fb n b ∧ fllN fb n b < B := by
  intro n
  induction n with
  | zero => intro b b0 b1; exact ⟨Int.le_refl _, b1⟩
  | succ n ih =>
    intro b b0 b1
    show b ≤ (if 0 < fb b then fllN fb n (fb b - 1) else b) ∧ (if 0 < fb b then fllN fb n (fb b - 1) else b) < B
    by_cases q : 0 < fb b
    · rw [if_pos q]
      have h2 := (h b b0 b1).resolve_left (by omega)
      have := ih (fb b - 1) (by omega) h2.2
      omega
    · rw [if_neg q]; omega
theorem nofill_c {F : Nat → SC → Prop} (hD : DWX A c0 σ t p) (hL : FLK A c0 σ t) (hx : CX wkY wkR c0 c) (hb : b ∈ fl t) (hF : F 2 c) : ck iv L h0 d 190 [vr (A b)] c (qa F) := by
  obtain ⟨a1, a2, a3⟩ := hD.any hx ⟨(hD.1.2.1.lt hb).1, (hD.1.2.1.lt hb).2.1⟩
  refine C190 ⟨a1, ?_⟩
  rw [a2, hL.2.2 b hb]
  exact C190_5 ⟨fun _ => hF, fun w => absurd rfl w⟩
theorem filler_c {F : Nat → SC → Prop} (hD : DWX A c0 σ t p) (hL : FLK A c0 σ t) (hx : CX wkY wkR c0 c) (hb : 0 ≤ b ∧ b < σ.1 8) (ht : fllF (σ.2 42) b ∈ fl t) (hF : F (if fllF (σ.2 42) b = b then 2 else A (fllF (σ.2 42) b)) c) : ck iv L h0 d 190 [vr (A b)] c (qa F) := by
  obtain ⟨l1, l2, l3⟩ := id hL
  have h8 := hD.1.2.1.2.2.2.2.1
  obtain ⟨a1, a2, a3⟩ := hD.any hx hb
  have e0 : fllF (σ.2 42) b = if 0 < σ.2 42 b then fllN (σ.2 42) 3003 (σ.2 42 b - 1) else b := rfl
  have key : ∀ (n : Nat) (q : Int), 0 ≤ q → q < σ.1 8 → σ.1 8 - q ≤ n → fllN (σ.2 42) n q ∈ fl t → F (A (fllN (σ.2 42) n q)) c → wk iv L h0 d 190 5 [ln, lr (A q)] [] c (qa F) := by
    intro n
    induction n with
    | zero => intro q q0 q1 hn; omega
    | succ n ih =>
      intro q q0 q1 hn hm h
      obtain ⟨u1, u2, u3⟩ := hD.any hx ⟨q0, q1⟩
      have h : F (A (if 0 < σ.2 42 q then fllN (σ.2 42) n (σ.2 42 q - 1) else q)) c := h
      have hm : (if 0 < σ.2 42 q then fllN (σ.2 42) n (σ.2 42 q - 1) else q) ∈ fl t := hm
      refine C190_5 ⟨fun w => absurd w u3, fun _ => ⟨u1, ?_⟩⟩
      by_cases z : 0 < σ.2 42 q
      · rw [if_pos z] at h hm
        rw [u2, l1 q q0 q1 z]
        have h2 := (l2 q q0 q1).resolve_left (by omega)
        exact ⟨fun w => absurd w (hD.any hx ⟨by omega, h2.2⟩).2.2, fun _ => ih _ (by omega) h2.2 (by omega) hm h⟩
      · rw [if_neg z] at h hm
        rw [u2, l3 q hm]
        exact ⟨fun _ => h, fun w => absurd rfl w⟩
  by_cases z : 0 < σ.2 42 b
  · rw [if_pos z] at e0
    have h2 := (l2 b hb.1 hb.2).resolve_left (by omega)
    have h3 := fill_gt l2 3003 (σ.2 42 b - 1) (by omega) h2.2
    rw [if_neg (by omega), e0] at hF
    rw [e0] at ht
    refine C190 ⟨a1, ?_⟩
    rw [a2, l1 b hb.1 hb.2 z]
    exact key 3003 _ (by omega) h2.2 (by omega) ht hF
  · rw [if_neg z] at e0
    rw [if_pos e0] at hF
    rw [e0] at ht
    exact nofill_c hD hL hx ht hF
theorem DWE.stop (h : DWE A p kv k0 k1 c st R a e) (hR : R.2.1 ≠ 0) : DWP A p kv k0 k1 c st R a e := by
  obtain ⟨⟨t1, t2, t3, t4, t5, t6⟩, -⟩ := h
  exact ⟨t1, t2, t3, t4, fun w => absurd w hR, t6⟩
/-- what was kept over a working -/
theorem STY.v {P Q : Nat → Prop} (h : STY P Q c e) (ha : P a) (hk : kl c a = 10) : Q a ∧ kl e a = 10 ∧ (fI e a 0 = fI c a 0 ∧ fR e a 2 = fR c a 2 ∧ fR e a 3 = fR c a 3 ∧ fR e a 4 = fR c a 4 ∧ fR e a 5 = fR c a 5) := by
  obtain ⟨h1, h2⟩ := h a ha
  obtain ⟨h3, h4⟩ := h2 (Or.inl hk)
  exact ⟨h1, h3.trans hk, (h4 0 (by decide)).1, (h4 2 (by decide)).2, (h4 3 (by decide)).2, (h4 4 (by decide)).2, (h4 5 (by decide)).2⟩
/-- what is left of a hole, a DEF -/
theorem don2_c {z : Int} {D : Nat} {F : Nat → SC → Prop} (hD : DWX A c0 σ t p) (hFN : FN σ t) (hL : FLK A c0 σ t) (hW : WCD iv L h0 A c0 σ t p most n) (hO : OCD iv L h0 A c0 σ t p most n) (hS : DWS c0 p most st kv ks c) (hk : 1 ≤ kv ∧ 1 ≤ ks) (hz : z = 60 - n) (hVV : V = .sub (.index D) E ∨ V = .div (.index D) E) (hV : VO σ t V) (hv : DV A c (LIV c p) V a []) (hF : ∀ a e, DWP A p 1 0 1 c st (oplE (σ.2 9) (σ.2 10) (σ.2 14) (σ.2 42) (EV σ most n).1 (EV σ most n).2 V st) a e → F a e) : ck iv L h0 (3 * n + 12) 242 [vr 176, vr a, vi z] c (qa F) := by
  have hcx := hS.1
  have hT := hD.1.2.1
  obtain ⟨w1, w2, w3⟩ := hD.wk hcx
  have hst := hS.2.2.2.1
  obtain ⟨hk1, hk2, l, hl1, hl2, hE, hVE, hDb, kk⟩ : (LIV c p a ∧ kl c a = 10) ∧ fR c a 2 = A D ∧ ∃ l, CHN c (LIV c p) (fR c a 5) l ∧ DV A c (LIV c p) E 2 l ∧ isE 26 E ∧ VO σ t E ∧ (0 ≤ (D : Int) ∧ (D : Int) < σ.1 8) ∧ ((V = .sub (.index D) E ∧ fI c a 0 = 2) ∨ (V = .div (.index D) E ∧ fI c a 0 = 4)) := by
    rcases hVV with rfl | rfl
    · obtain ⟨⟨h1, h2⟩, h3, h4, l, h5, h6⟩ := hv
      obtain ⟨⟨v1, v2⟩, v3, v4, v5⟩ := hV
      exact ⟨h1, h3, l, h5, h6, v4, v5, ⟨by omega, (hT.lt v1).2.1⟩, Or.inl ⟨rfl, h2⟩⟩
    · obtain ⟨⟨h1, h2⟩, h3, h4, l, h5, h6⟩ := hv
      obtain ⟨⟨v1, v2⟩, v3, v4, v5⟩ := hV
      exact ⟨h1, h3, l, h5, h6, v4, v5, ⟨by omega, v1⟩, Or.inr ⟨rfl, h2⟩⟩
  obtain ⟨y1, y2, y3⟩ := env_ok (EV_okO (most := most) hD hFN n) 26 E st hE hVE hst.2.1
  refine C242 ⟨hk1.2, w1, sights_c hD hFN hO hS ⟨by omega, by omega⟩ hz hE hVE ⟨hl1, hl2⟩ (fun r e h => ?_)⟩
  have hx2 := hcx.tr h.1.1.1
  have hX2 := hD.wk hx2
  have h4 := h.1.2.2.1.2.1
  obtain ⟨u1, u2, u3, u4, -⟩ := h.1.2.1.1.1.v hk1.1 hk1.2
  have op : oplE (σ.2 9) (σ.2 10) (σ.2 14) (σ.2 42) (EV σ most n).1 (EV σ most n).2 V st = bnR (envE (EV σ most n).2 E st) (fun st F => if V = .sub (.index D) E then rok st (.sub (.index D) F) else if fllF (σ.2 42) D = D then rok st (.div (.index D) F) else (EV σ most n).1 (fllF (σ.2 42) D) F st) := by
    rcases kk with ⟨rfl, -⟩ | ⟨rfl, -⟩
    · simp only [if_pos]; rfl
    · simp only [reduceCtorEq, if_false]; rfl
  rw [op] at hF
  generalize envE (EV σ most n).2 E st = R at *
  by_cases g0 : R.2.1 = 0
  · obtain ⟨z1, z2, z3, z4⟩ := y3 g0
    rw [bnR_0 g0] at hF
    obtain ⟨l', hc, hd⟩ := h.2 g0
    have S2 : DWS c0 p most R.1 (kv - 0) (ks - 0) e := hS.nx (hD.fx hcx) (R := (R.1, R.2.1, R.2.2.1, .null)) h.1 y1 ⟨g0, z1⟩
    have h4 : fI e 176 4 = -1 := by rw [h4]; exact if_pos g0
    have hh : ∀ {R' : RS} {a' : Nat} {e' : SC}, DWP A p 1 0 1 e R.1 R' a' e' → DWP A p 1 0 1 c st R' a' e' := fun h' => (h.1.tr g0 h').up (by decide) (by decide) (by decide)
    refine ⟨hX2.1, fun _ => ⟨u2, ?_⟩, fun w => absurd h4 w⟩
    rw [u4, hk2]
    rcases kk with ⟨rfl, kk⟩ | ⟨rfl, kk⟩
    · obtain ⟨⟨v1, v2⟩, v3, v4, v5⟩ := hV
      rw [if_pos rfl] at hF
      refine ⟨(hD.any hx2 hDb).1, nofill_c hD hL hx2 v1 ?_⟩
      rw [u4, hk2, u3, S2.2.2.1.1, kk]
      refine ⟨fun w => absurd rfl w, fun _ => ⟨hX2.1, u2, hX2.2.1, ?_⟩⟩
      exact dsub_c hD S2 (by omega) (b := D) (by omega) ⟨hc, hd⟩ (fun a' e' h' => hF a' e' (hh (h'.up (by decide) (by decide) (by decide))))
    · obtain ⟨⟨v1, v2, v2'⟩, v3, v4, v5⟩ := hV
      rw [if_neg (by simp)] at hF
      have hft : fllF (σ.2 42) (D : Int) ∈ fl t := by
        by_cases q : (D : Int) ∈ fl t
        · have et : tgt σ t D = D := if_pos q
          rw [hFN D q (v2' et)]
          exact q
        · have et : tgt σ t D = fllF (σ.2 42) D := if_neg q
          rw [← et]
          exact v2
      refine ⟨(hD.any hx2 hDb).1, filler_c hD hL hx2 hDb hft ?_⟩
      rw [u4, hk2, u3, S2.2.2.1.1, kk]
      by_cases ef : fllF (σ.2 42) (D : Int) = D
      · rw [if_pos ef] at hF
        rw [if_pos ef]
        refine ⟨fun w => absurd rfl w, fun _ => ⟨hX2.1, u2, hX2.2.1, ?_⟩⟩
        exact ddiv_c hD S2 (by omega) (b := D) (by omega) ⟨hc, hd⟩ (fun a' e' h' => hF a' e' (hh (h'.up (by decide) (by decide) (by decide))))
      · rw [if_neg ef] at hF
        rw [if_neg ef]
        have et := tgt_f hFN v2' ef
        rw [et] at v2 v3
        refine ⟨fun _ => ⟨hX2.1, ?_⟩, fun w => absurd w (hD.any hx2 ⟨by have := hT.lt v2; omega, (hT.lt v2).2.1⟩).2.2⟩
        exact dwsub_c hW v2 ⟨z2, z3, fun z z0 z1 hz q => v3 z z0 z1 hz (z4 z q)⟩ ⟨hc, hd⟩ S2 ⟨by omega, by omega⟩ (by omega) hz (fun a' e' h' => hF a' e' (hh (h'.up (by decide) (by decide) (by decide))))
  · rw [bnR_n g0] at hF
    have hs := h.stop g0
    have er : r = 2 := hs.2.2.2.2.2 g0
    subst er
    have h4 : fI e 176 4 = R.2.1 := by rw [h4]; exact if_neg g0
    exact ⟨hX2.1, fun w => by have := y2.resolve_left g0; omega, fun _ => hF 2 e (hs.up (by decide) (by decide) (by decide))⟩
end
end
section
/-! Going on by the desk: acts that were left, every value (C243, C241). -/
section
variable {iv : List (Int × Int)} {L : Nat} {h0 : MH} {A A' : Int → Nat} {P : Nat → Prop} {c c0 e f : SC} {σ s s' w : SM} {t : Term} {d p a g x y n : Nat} {b most st kv ks kv' ks' k0 k1 k q : Int} {ys : List (Nat × Nat)} {rs : List Nat} {R : RS} {X Y E V : Term} {l : List (Int × Nat)}
theorem rest_c {z : Int} {D : Nat} {F : Nat → SC → Prop} (hD : DWX A c0 σ t p) (hFN : FN σ t) (hW : WCD iv L h0 A c0 σ t p most n) (hO : OCD iv L h0 A c0 σ t p most n) (hS : DWS c0 p most st kv ks e) (hk : 1 ≤ kv ∧ 1 ≤ ks) (hz : z = 60 - n) (hDt : (D : Int) ∈ fl t) (hx : (isV X = true ∧ VN σ t X) ∧ DV A e (YNG e p) X x []) (ha : LIV e p a ∧ kl e a = 10) (ha2 : fR e a 2 = A D)
    (hc : ((σ.2 9 D = 4 ∨ σ.2 9 D = 5 ∨ σ.2 9 D = 6 ∨ σ.2 9 D = 7 ∨ σ.2 9 D = 9) ∧ (isV Y = true ∧ VN σ t Y) ∧ DV A e (YNG e p) Y y [] ∧ E = .null ∧ fR e a 5 = 2) ∨ (σ.2 9 D = 11 ∧ y = 2 ∧ isE 26 E ∧ cov σ D E ∧ VO σ t E ∧ ∃ l, CHN e (LIV e p) (fR e a 5) l ∧ DV A e (LIV e p) E 2 l) ∨ ((σ.2 9 D = 13 ∨ σ.2 9 D = 14) ∧ y = 2 ∧ E = .null ∧ fR e a 5 = 2))
    (hF : ∀ a' e', DWP A p 1 0 2 e st (bnR (optE (fun E => envE (EV σ most n).2 E st) st E) (fun st F => actE (σ.2 9) (σ.2 10) (σ.2 14) (EV σ most n).1 D X Y F st)) a' e' → F a' e') :
    ck iv L h0 (3 * n + 11) 244 [vr 176, vr (fR e a 5), vi z] e (qa fun r s => (kl s 176 = 11) ∧ ((fI s 176 4 ≠ (-1) → F 2 s) ∧ (fI s 176 4 = (-1) → (kl s a = 10) ∧ ck iv L h0 (3 * n + 11) 239 [vr 176, vr (fR s a 2), vr x, vr y, vr r, vi z] s (qa fun r12 s11 => F r12 s11)))) := by
  have w1 := (hD.wk hS.1).1
  have hst := hS.2.2.2.1
  have nos : E = .null → fR e a 5 = 2 → (σ.2 9 D = 4 ∨ σ.2 9 D = 5 ∨ σ.2 9 D = 6 ∨ σ.2 9 D = 7 ∨ σ.2 9 D = 9 → (isV Y = true ∧ VN σ t Y) ∧ DV A e (YNG e p) Y y []) → (σ.2 9 D = 13 ∨ σ.2 9 D = 14 → y = 2) → (σ.2 9 D = 4 ∨ σ.2 9 D = 5 ∨ σ.2 9 D = 6 ∨ σ.2 9 D = 7 ∨ σ.2 9 D = 9 ∨ σ.2 9 D = 13 ∨ σ.2 9 D = 14) → ck iv L h0 (3 * n + 11) 244 [vr 176, vr (fR e a 5), vi z] e (qa fun r s => (kl s 176 = 11) ∧ ((fI s 176 4 ≠ (-1) → F 2 s) ∧ (fI s 176 4 = (-1) → (kl s a = 10) ∧ ck iv L h0 (3 * n + 11) 239 [vr 176, vr (fR s a 2), vr x, vr y, vr r, vi z] s (qa fun r12 s11 => F r12 s11)))) := fun hE h5 hY hy hso => by
    rw [h5]
    subst hE
    rw [optE_n, bnR_rok] at hF
    refine nosights_c hD hS.1 ⟨w1, fun w => absurd hS.2.2.1.2.2.2.1 w, fun _ => ⟨ha.2, ?_⟩⟩
    rw [ha2]
    exact dact_c (E := .null) (l := []) hD hW hS hk hz hDt (by omega) hx (fun q => hY (by omega)) (fun q => hy (by omega)) (fun q => by omega) hF
  rcases hc with ⟨so, hY, hy, hE, h5⟩ | ⟨so, hy, hE, hcv, hVE, l, hl1, hl2⟩ | ⟨so, hy, hE, h5⟩
  · exact nos hE h5 (fun _ => ⟨hY, hy⟩) (fun q => by omega) (by omega)
  · have Enn : E ≠ .null := fun q => by rw [q] at hE; exact hE.elim
    obtain ⟨y1, y2, y3⟩ := env_ok (EV_okO (most := most) hD hFN n) 26 E st hE hVE hst.2.1
    rw [optE_v Enn] at hF
    refine sights_c hD hFN hO hS ⟨by omega, by omega⟩ hz hE hVE ⟨hl1, hl2⟩ (fun r e2 h => ?_)
    have h4 := h.1.2.2.1.2.1
    obtain ⟨u1, u2, u3, u4, -⟩ := h.1.2.1.1.1.v ha.1 ha.2
    have hx2 := hS.1.tr h.1.1.1
    generalize envE (EV σ most n).2 E st = R at *
    by_cases g0 : R.2.1 = 0
    · obtain ⟨z1, z2, z3, z4⟩ := y3 g0
      rw [bnR_0 g0] at hF
      obtain ⟨l', hc, hd⟩ := h.2 g0
      have S2 : DWS c0 p most R.1 (kv - 0) (ks - 0) e2 := hS.nx (hD.fx hS.1) (R := (R.1, R.2.1, R.2.2.1, .null)) h.1 y1 ⟨g0, z1⟩
      have h4 : fI e2 176 4 = -1 := by rw [h4]; exact if_pos g0
      refine ⟨(hD.wk hx2).1, fun w => absurd h4 w, fun _ => ⟨u2, ?_⟩⟩
      rw [u4, ha2]
      exact dact_c (l := l') hD hW S2 ⟨by omega, by omega⟩ hz hDt (by omega) ⟨hx.1, DV_up h.1.2.1.1.2 _ X x [] (Nat.lt_succ_self _) hx.2⟩ (fun q => by omega) (fun q => hy) (fun _ => ⟨⟨z2, z3, fun z z0 z1 hz q => hcv z z0 z1 hz (z4 z q)⟩, hc, hd⟩) (fun a' e' h' => hF a' e' ((h.1.tr g0 h').up (by decide) (by decide) (by decide)))
    · rw [bnR_n g0] at hF
      have hs := h.stop g0
      have h4 : fI e2 176 4 = R.2.1 := by rw [h4]; exact if_neg g0
      refine ⟨(hD.wk hx2).1, fun _ => ?_, fun w => by have := y2.resolve_left g0; omega⟩
      have er : r = 2 := hs.2.2.2.2.2 g0
      subst er
      exact hF 2 e2 (hs.up (by decide) (by decide) (by decide))
  · exact nos hE h5 (fun q => by omega) (fun _ => hy) (by omega)
/-- a pair gone on with -/
theorem don3_c {z : Int} {F : Nat → SC → Prop} (hD : DWX A c0 σ t p) (hFN : FN σ t) (hO : OCD iv L h0 A c0 σ t p most n) (hS : DWS c0 p most st kv ks c) (hk : 1 ≤ kv ∧ 1 ≤ ks) (hz : z = 60 - n) (hV : VO σ t (.add X Y)) (hv : DV A c (LIV c p) (.add X Y) a []) (hF : ∀ a e, DWP A p 1 0 1 c st (oplE (σ.2 9) (σ.2 10) (σ.2 14) (σ.2 42) (EV σ most n).1 (EV σ most n).2 (.add X Y) st) a e → F a e) : ck iv L h0 (3 * n + 12) 243 [vr 176, vr a, vi z] c (qa F) := by
  have hcx := hS.1
  obtain ⟨w1, w2, w3⟩ := hD.wk hcx
  have hst := hS.2.2.2.1
  obtain ⟨⟨⟨h1, h1'⟩, h2⟩, h3, h4, h5⟩ := hv
  obtain ⟨⟨v1, v2⟩, v3, v4⟩ := hV
  obtain ⟨r1, r2, r3⟩ := EV_okO (most := most) hD hFN n X st v1 v2 hst.2.1
  have hF : ∀ a e, DWP A p 1 0 1 c st (bnR ((EV σ most n).2 X st) (fun st x => bnR ((EV σ most n).2 Y st) (fun st y => rok st (.add x y)))) a e → F a e := hF
  subst hz
  refine C243 ⟨h1', w1, ck_mono (hO X st c _ v1 v2 h4 (hS.up (by omega) (by omega))) (by omega) (fun x e h => ?_)⟩
  have hne := h.ne (fun q => (r3 q).2.1)
  obtain ⟨u1, u2, u3, u4, u5, u6, u7⟩ := h.2.1.1.1.v h1 h1'
  generalize (EV σ most n).2 X st = R at *
  by_cases g0 : R.2.1 = 0
  · obtain ⟨x1, x2, x3⟩ := r3 g0
    rw [bnR_0 g0] at hF
    have S2 := hS.nx (hD.fx hcx) h r1 ⟨g0, x1⟩
    have hy2 := DV_up h.2.1.1.1 _ Y _ [] (Nat.lt_succ_self _) h5
    have hxa := hne.mp g0
    refine ⟨fun w => absurd w hxa, fun _ => ⟨u2, fun _ => ⟨(hD.wk S2.1).1, ?_⟩, fun w => ?_⟩⟩
    · rw [u6]
      obtain ⟨s1, s2, s3⟩ := EV_okO (most := most) hD hFN n Y R.1 v3 v4 r1.2
      refine ck_mono (hO Y R.1 e _ v3 v4 hy2 (S2.up (by omega) (by omega))) (by omega) (fun y e2 h' => ⟨fun w => absurd w hxa, fun _ => ?_⟩)
      have hne' := h'.ne (fun q => (s3 q).2.1)
      obtain ⟨o1, o2, o3, o4, o5, o6, o7⟩ := h'.2.1.1.1.v u1 u2
      generalize (EV σ most n).2 Y R.1 = R1 at *
      refine ⟨o2, fun w => ?_, fun _ => ?_⟩
      · rw [o6, u6] at w
        exact absurd w (DV_neL v3 h5)
      · by_cases g1 : R1.2.1 = 0
        · obtain ⟨z1, z2, z3⟩ := s3 g1
          rw [bnR_0 g1] at hF
          have S3 := S2.nx (hD.fx S2.1) h' s1 ⟨g1, z1⟩
          refine ⟨fun _ => ⟨fun w => absurd (o3.trans (u3.trans h2)) w, fun _ => ⟨fun _ => ⟨(hD.wk S3.1).1, ?_⟩, fun w => absurd w (hne'.mp g1)⟩⟩, fun w => absurd w (hne'.mp g1)⟩
          rw [S3.2.2.1.1]
          exact ⟨(hD.wk S3.1).2.1, dadd_c hD S3 (by omega) x2 z2 (DV_up h'.2.1.1.2 _ _ x [] (Nat.lt_succ_self _) (h.2.2.2.2.1 g0)) (h'.2.2.2.2.1 g1) (fun a' e' h'' => hF a' e' (((h.tr g0 h').tr g1 h'').up (by decide) (by decide) (by decide)))⟩
        · rw [bnR_n g1] at hF
          have ea : y = 2 := h'.2.2.2.2.2 g1
          subst ea
          exact ⟨fun w => absurd rfl w, fun _ => hF 2 e2 ((h.tr g0 h').up (by decide) (by decide) (by decide))⟩
    · rw [u6] at w
      exact absurd w (DV_neL v3 h5)
  · rw [bnR_n g0] at hF
    have ea : x = 2 := h.2.2.2.2.2 g0
    subst ea
    exact ⟨fun _ => ⟨fun _ => hF 2 e (h.up (by decide) (by decide) (by decide)), fun w => absurd rfl w⟩, fun w => absurd rfl w⟩
/-- an act gone on with -/
theorem don7_c {z : Int} {D : Nat} {F : Nat → SC → Prop} (hD : DWX A c0 σ t p) (hFN : FN σ t) (hW : WCD iv L h0 A c0 σ t p most n) (hO : OCD iv L h0 A c0 σ t p most n) (hS : DWS c0 p most st kv ks c) (hk : 1 ≤ kv ∧ 1 ≤ ks) (hz : z = 60 - n) (hV : VO σ t (.rem (.index D) (.elem X (.elem Y E)))) (hv : DV A c (LIV c p) (.rem (.index D) (.elem X (.elem Y E))) a []) (hF : ∀ a e, DWP A p 1 0 1 c st (oplE (σ.2 9) (σ.2 10) (σ.2 14) (σ.2 42) (EV σ most n).1 (EV σ most n).2 (.rem (.index D) (.elem X (.elem Y E))) st) a e → F a e) : ck iv L h0 (3 * n + 12) 243 [vr 176, vr a, vi z] c (qa F) := by
  have hcx := hS.1
  obtain ⟨w1, w2, w3⟩ := hD.wk hcx
  have hst := hS.2.2.2.1
  obtain ⟨⟨⟨h1, h1'⟩, h2⟩, h2', h3, h4, h5, h5', h6⟩ := hv
  obtain ⟨⟨v0, v1, v2⟩, hcase⟩ := hV
  obtain ⟨r1, r2, r3⟩ := EV_okO (most := most) hD hFN n X st v1 v2 hst.2.1
  have hF : ∀ a e, DWP A p 1 0 1 c st (bnR ((EV σ most n).2 X st) (fun st x => bnR (optE (fun B => (EV σ most n).2 B st) st Y) (fun st y => bnR (optE (fun E => envE (EV σ most n).2 E st) st E) (fun st F => actE (σ.2 9) (σ.2 10) (σ.2 14) (EV σ most n).1 D x y F st)))) a e → F a e := hF
  have hO' := hO
  subst hz
  refine C243 ⟨h1', w1, ck_mono (hO X st c _ v1 v2 h4 (hS.up (by omega) (by omega))) (by omega) (fun x e h => ?_)⟩
  have hne := h.ne (fun q => (r3 q).2.1)
  obtain ⟨u1, u2, u3, u4, u5, u6, u7⟩ := h.2.1.1.1.v h1 h1'
  generalize (EV σ most n).2 X st = R at *
  have kn : ∀ {e : SC}, fI e a 0 = fI c a 0 → fI e a 0 ≠ 3 := fun q => by rw [q, h2]; decide
  by_cases g0 : R.2.1 = 0
  · obtain ⟨x1, x2, x3⟩ := r3 g0
    rw [bnR_0 g0] at hF
    have S2 := hS.nx (hD.fx hcx) h r1 ⟨g0, x1⟩
    have hxa := hne.mp g0
    have vx := h.2.2.2.2.1 g0
    have k7 := kn u3
    have sc : E ≠ .null → ∃ l, CHN e (LIV e p) (fR e a 5) l ∧ DV A e (LIV e p) E 2 l := fun q => by
      obtain ⟨l, q1, q2⟩ := (h6.resolve_left (fun w => q w.1)).2
      exact ⟨l, by rw [u7]; exact CHN.up h.2.1.1.1 l _ q1, DV_up h.2.1.1.1 _ E 2 l (Nat.lt_succ_self _) q2⟩
    refine ⟨fun w => absurd w hxa, fun _ => ⟨u2, fun w4 => ⟨(hD.wk S2.1).1, ?_⟩, fun w4 => ⟨fun w => absurd w hxa, fun _ => ⟨fun _ => ⟨fun _ => ⟨(hD.wk S2.1).1, ?_⟩, fun w => absurd w k7⟩, fun w => absurd w4 w⟩⟩⟩⟩
    · rw [u6] at w4 ⊢
      have hYn : Y ≠ .null := fun w => w4 (h5.mp w)
      obtain ⟨so, B1, B2, hEn⟩ : (σ.2 9 D = 4 ∨ σ.2 9 D = 5 ∨ σ.2 9 D = 6 ∨ σ.2 9 D = 7 ∨ σ.2 9 D = 9) ∧ isV Y = true ∧ VO σ t Y ∧ E = .null := by
        rcases hcase with q | ⟨-, q, -⟩ | ⟨-, q, -⟩
        · exact q
        · exact absurd q hYn
        · exact absurd q hYn
      have g5 : fR c a 5 = 2 := (h6.resolve_right (fun w => w.1 hEn)).2
      have hy2 := DV_up h.2.1.1.1 _ Y _ [] (Nat.lt_succ_self _) (h5' hYn)
      obtain ⟨s1, s2, s3⟩ := EV_okO (most := most) hD hFN n Y R.1 B1 B2 r1.2
      refine ck_mono (hO Y R.1 e _ B1 B2 hy2 (S2.up (by omega) (by omega))) (by omega) (fun y e2 h' => ⟨fun w => absurd w hxa, fun _ => ?_⟩)
      have hne' := h'.ne (fun q => (s3 q).2.1)
      obtain ⟨o1, o2, o3, o4, o5, o6, o7⟩ := h'.2.1.1.1.v u1 u2
      rw [optE_v hYn] at hF
      generalize (EV σ most n).2 Y R.1 = R1 at *
      refine ⟨o2, fun w => ?_, fun _ => ?_⟩
      · rw [o6, u6] at w
        exact absurd w w4
      · by_cases g1 : R1.2.1 = 0
        · obtain ⟨z1, z2, z3⟩ := s3 g1
          rw [bnR_0 g1] at hF
          have S3 := S2.nx (hD.fx S2.1) h' s1 ⟨g1, z1⟩
          refine ⟨fun _ => ⟨fun _ => ⟨(hD.wk S3.1).1, ?_⟩, fun w => absurd w (kn (o3.trans u3))⟩, fun w => absurd w (hne'.mp g1)⟩
          exact rest_c hD hFN hW hO' S3 ⟨by omega, by omega⟩ rfl v0 ⟨⟨x2, x3⟩, DV_up h'.2.1.1.2 _ _ x [] (Nat.lt_succ_self _) vx⟩ ⟨o1, o2⟩ (o4.trans (u4.trans h2')) (Or.inl ⟨so, ⟨z2, z3⟩, h'.2.2.2.2.1 g1, hEn, o7.trans (u7.trans g5)⟩) (fun a' e' h'' => hF a' e' (((h.tr g0 h').tr g1 h'').up (by decide) (by decide) (by decide)))
        · rw [bnR_n g1] at hF
          have ea : y = 2 := h'.2.2.2.2.2 g1
          subst ea
          exact ⟨fun w => absurd rfl w, fun _ => hF 2 e2 ((h.tr g0 h').up (by decide) (by decide) (by decide))⟩
    · rw [u6] at w4
      have hYn : Y = .null := h5.mpr w4
      subst hYn
      rw [optE_n, bnR_rok] at hF
      refine rest_c (Y := .null) hD hFN hW hO' S2 ⟨by omega, by omega⟩ rfl v0 ⟨⟨x2, x3⟩, vx⟩ ⟨u1, u2⟩ (u4.trans h2') ?_ (fun a' e' h'' => hF a' e' ((h.tr g0 h'').up (by decide) (by decide) (by decide)))
      rcases hcase with ⟨-, q, -⟩ | ⟨so, -, E1, E2, E3⟩ | ⟨so, -, hEn⟩
      · exact absurd rfl (isV_nn q)
      · exact Or.inr (Or.inl ⟨so, rfl, E1, E2, E3, sc (fun w => by rw [w] at E1; exact E1.elim)⟩)
      · exact Or.inr (Or.inr ⟨so, rfl, hEn, u7.trans (h6.resolve_right (fun w => w.1 hEn)).2⟩)
  · rw [bnR_n g0] at hF
    have ea : x = 2 := h.2.2.2.2.2 g0
    subst ea
    exact ⟨fun _ => ⟨fun _ => hF 2 e (h.up (by decide) (by decide) (by decide)), fun w => absurd rfl w⟩, fun w => absurd rfl w⟩
end
end
section
/-! Going on by the desk: every value, by levels (C241). -/
section
variable {iv : List (Int × Int)} {L : Nat} {h0 : MH} {A A' : Int → Nat} {P : Nat → Prop} {c c0 e f : SC} {σ s s' w : SM} {t : Term} {d p a g x y n : Nat} {b most st kv ks kv' ks' k0 k1 k q : Int} {ys : List (Nat × Nat)} {rs : List Nat} {R : RS} {X Y E V : Term} {l : List (Int × Nat)}
theorem OCD_all (hD : DWX A c0 σ t p) (hFN : FN σ t) (hL : FLK A c0 σ t) : ∀ n : Nat, n ≤ 60 → OCD iv L h0 A c0 σ t p most n := by
  intro n
  induction n with
  | zero =>
    intro _ V st c a hv hV hd hS
    obtain ⟨w1, w2, w3⟩ := hD.wk hS.1
    show ck iv L h0 (9 + 1) 241 [vr 176, vr a, vi 60] c _
    refine C241 ⟨w1, dspent_c hD hS (fun _ => ⟨fun w => (by cases w), fun _ => ⟨w1, ?_⟩⟩) (fun _ w => by omega)⟩
    exact dstop_c hD hS (by decide) (fun e h => (h.sp (k0' := -1) (by show (4 : Int) ≠ 0; decide)).up (by decide) (by decide) (by decide))
  | succ n ih =>
    intro hn V st c a hv hV hd hS
    have hcx := hS.1
    obtain ⟨w1, w2, w3⟩ := hD.wk hcx
    have ev : ∀ R : RS, R = (EV σ most (n + 1)).2 V st → R = if st = most then rst st 4 (-9) else oplE (σ.2 9) (σ.2 10) (σ.2 14) (σ.2 42) (EV σ most n).1 (EV σ most n).2 V (st + 1) := fun R h => h
    have a3 := hS.2.2.1.2.2.1
    have a4 := hS.2.2.2.1
    have hW := WCD_all (iv := iv) (L := L) (h0 := h0) (most := most) hD n (by omega)
    have hO := ih (by omega)
    obtain ⟨⟨d1, d1'⟩, d2, d3⟩ := DV_kind hv hd
    rw [show 3 * (n + 1) + 10 = (3 * n + 12) + 1 by omega]
    refine C241 ⟨w1, dspent_c hD hS (fun q => ⟨fun w => (by cases w), fun _ => ⟨w1, ?_⟩⟩) (fun q1 q2 => ⟨fun _ => ⟨w1, by omega, d1', ?_⟩, fun w => absurd rfl w⟩)⟩
    · have evn := ev _ rfl
      rw [if_pos (by omega)] at evn
      rw [evn]
      exact dstop_c hD hS (by decide) (fun e h => (h.sp (k0' := -1) (by show (4 : Int) ≠ 0; decide)).up (by decide) (by decide) (by decide))
    · have evn := ev _ rfl
      rw [if_neg (by omega)] at evn
      rw [evn, d2, a3]
      obtain ⟨x1, x2, x3, x4⟩ := step_x hD hS (st + 1)
      have S1 := DWS.step hD hS q1
      have hd2 := DV_up x2.1 _ V a [] (Nat.lt_succ_self _) hd
      have lv : ∀ {R : RS} {a' : Nat} {e : SC}, DWP A p 1 0 1 (uI c 176 3 (st + 1)) (st + 1) R a' e → DWP A p 0 (-1) 1 c st R a' e := fun h => (DWP.lev hD hS h).up (by decide) (by decide) (by decide)
      have hp := hS.2.2.1.1
      have pl : ∀ (k N : Int) (W : Term), W = V → (∀ (S1 : DWS c0 p most (st + 1) 2 1 (uI c 176 3 (st + 1))) (F : Nat → SC → Prop), (∀ a' e, DWP A p 1 0 0 (uI c 176 3 (st + 1)) (st + 1) (rok (st + 1) W) a' e → F a' e) → ck iv L h0 (3 * n + 10 + 2) 196 [vr p, vi k, vi N] (uI c 176 3 (st + 1)) (qa F)) → (∀ {st' : Int}, oplE (σ.2 9) (σ.2 10) (σ.2 14) (σ.2 42) (EV σ most n).1 (EV σ most n).2 V st' = rok st' V) → ck iv L h0 (3 * n + 12) 196 [vr p, vi k, vi N] (uI c 176 3 (st + 1)) (qa fun r s => DWP A p 0 (-1) 1 c st (oplE (σ.2 9) (σ.2 10) (σ.2 14) (σ.2 42) (EV σ most n).1 (EV σ most n).2 V (st + 1)) r s) := fun k N W hW h1 h2 => by
        subst hW
        rw [h2]
        exact h1 S1 _ (fun a' e h => lv (h.up (by decide) (by decide) (by decide)))
      have n1 : fI c a 1 = fI c a 1 := rfl
      refine ⟨fun q => ⟨by omega, ?_⟩, fun q => ⟨by omega, ?_⟩, fun q => ⟨by show kl c (fR c 176 0) = 6; rw [hp]; exact w2, ?_⟩, fun q => ⟨by omega, ?_⟩⟩
      · -- holes and DEFs
        cases V with
        | sub b E =>
          cases b with
          | index b => exact don2_c hD hFN hL hW hO S1 ⟨by decide, by decide⟩ (by omega) (Or.inl rfl) hV hd2 (fun a' e h => lv h)
          | _ => cases hv
        | div b E =>
          cases b with
          | index b => exact don2_c hD hFN hL hW hO S1 ⟨by decide, by decide⟩ (by omega) (Or.inr rfl) hV hd2 (fun a' e h => lv h)
          | _ => cases hv
        | int _ => exfalso; revert q; show (0 : Int) = 2 ∨ (0 : Int) = 4 → False; decide
        | arg _ => exfalso; revert q; show (1 : Int) = 2 ∨ (1 : Int) = 4 → False; decide
        | add _ _ => exfalso; revert q; show (3 : Int) = 2 ∨ (3 : Int) = 4 → False; decide
        | index _ => exfalso; revert q; show (5 : Int) = 2 ∨ (5 : Int) = 4 → False; decide
        | length _ => exfalso; revert q; show (6 : Int) = 2 ∨ (6 : Int) = 4 → False; decide
        | rem _ _ => exfalso; revert q; show (7 : Int) = 2 ∨ (7 : Int) = 4 → False; decide
        | _ => cases hv
      · cases V with
        | add X Y => exact don3_c hD hFN hO S1 ⟨by decide, by decide⟩ (by omega) hV hd2 (fun a' e h => lv h)
        | rem b z =>
          cases b with
          | index b =>
            cases z with
            | elem X z =>
              cases z with
              | elem Y E => exact don7_c hD hFN hW hO S1 ⟨by decide, by decide⟩ (by omega) hV hd2 (fun a' e h => lv h)
              | _ => cases hv
            | _ => cases hv
          | _ => cases hv
        | int _ => exfalso; revert q; show (0 : Int) = 3 ∨ (0 : Int) = 7 → False; decide
        | arg _ => exfalso; revert q; show (1 : Int) = 3 ∨ (1 : Int) = 7 → False; decide
        | sub _ _ => exfalso; revert q; show (2 : Int) = 3 ∨ (2 : Int) = 7 → False; decide
        | div _ _ => exfalso; revert q; show (4 : Int) = 3 ∨ (4 : Int) = 7 → False; decide
        | index _ => exfalso; revert q; show (5 : Int) = 3 ∨ (5 : Int) = 7 → False; decide
        | length _ => exfalso; revert q; show (6 : Int) = 3 ∨ (6 : Int) = 7 → False; decide
        | _ => cases hv
      · show ck iv L h0 (3 * n + 12) 196 [vr (fR c 176 0), vi _, vi (fI c a 1)] _ _
        rw [hp]
        cases V with
        | int z =>
          have v1 : fI c a 1 = z.toInt := hd.2.1
          have hz : inR z.toInt := ⟨Int32.le_toInt z, by have := Int32.toInt_lt z; omega⟩
          rw [v1]
          refine pl 0 z.toInt (.int (Int32.ofInt z.toInt)) (by rw [Int32.ofInt_toInt]) (fun S1 F hF => dint_c hD S1 (by decide) hz hF) rfl
        | arg z =>
          have v1 : fI c a 1 = (z : Int) := hd.2.1
          rw [v1]
          exact pl 1 z (.arg (z : Int).toNat) (by rw [Int.toNat_natCast]) (fun S1 F hF => darg_c hD S1 (by decide) (by omega) hF) rfl
        | index z =>
          have v1 : fI c a 1 = (z : Int) := hd.2.1
          rw [v1]
          exact pl 5 z (.index (z : Int).toNat) (by rw [Int.toNat_natCast]) (fun S1 F hF => dindex_c hD S1 (by decide) (by omega) hF) rfl
        | add _ _ => exfalso; revert q; show (3 : Int) = 5 ∨ (3 : Int) < 2 ∨ 7 < (3 : Int) → False; decide
        | sub _ _ => exfalso; revert q; show (2 : Int) = 5 ∨ (2 : Int) < 2 ∨ 7 < (2 : Int) → False; decide
        | div _ _ => exfalso; revert q; show (4 : Int) = 5 ∨ (4 : Int) < 2 ∨ 7 < (4 : Int) → False; decide
        | length _ => exfalso; revert q; show (6 : Int) = 5 ∨ (6 : Int) < 2 ∨ 7 < (6 : Int) → False; decide
        | rem _ _ => exfalso; revert q; show (7 : Int) = 5 ∨ (7 : Int) < 2 ∨ 7 < (7 : Int) → False; decide
        | _ => cases hv
      · cases V with
        | length X =>
          obtain ⟨v1, v2⟩ := hV
          obtain ⟨-, -, g3⟩ := hd2
          obtain ⟨r1, r2, r3⟩ := EV_okO (most := most) hD hFN n X (st + 1) v1 v2 (by omega)
          have e0 : oplE (σ.2 9) (σ.2 10) (σ.2 14) (σ.2 42) (EV σ most n).1 (EV σ most n).2 (.length X) (st + 1) = bnR ((EV σ most n).2 X (st + 1)) (fun st x => rok st (.length x)) := rfl
          rw [e0, show 60 - ((n + 1 : Nat) : Int) + 1 = 60 - (n : Int) by omega]
          refine ck_mono (hO X (st + 1) _ _ v1 v2 g3 (S1.up (by decide) (by decide))) (by omega) (fun x e h => ?_)
          have hne := h.ne (fun q => (r3 q).2.1)
          generalize (EV σ most n).2 X (st + 1) = R at *
          by_cases g0 : R.2.1 = 0
          · obtain ⟨z1, z2, z3⟩ := r3 g0
            rw [bnR_0 g0]
            have S2 := S1.nx (hD.fx S1.1) h r1 ⟨g0, z1⟩
            refine ⟨fun _ => ⟨(hD.wk S2.1).1, ?_⟩, fun w => absurd w (hne.mp g0)⟩
            rw [S2.2.2.1.1]
            exact ⟨(hD.wk S2.1).2.1, dlen_c hD S2 (by omega) (h.2.2.2.2.1 g0) (fun a' e' h' => lv ((h.tr g0 h').up (by decide) (by decide) (by decide)))⟩
          · rw [bnR_n g0]
            have ea : x = 2 := h.2.2.2.2.2 g0
            subst ea
            exact ⟨fun w => absurd rfl w, fun _ => lv (h.up (by decide) (by decide) (by decide))⟩
        | int _ => exfalso; revert q; show (0 : Int) = 6 → False; decide
        | arg _ => exfalso; revert q; show (1 : Int) = 6 → False; decide
        | sub _ _ => exfalso; revert q; show (2 : Int) = 6 → False; decide
        | add _ _ => exfalso; revert q; show (3 : Int) = 6 → False; decide
        | div _ _ => exfalso; revert q; show (4 : Int) = 6 → False; decide
        | index _ => exfalso; revert q; show (5 : Int) = 6 → False; decide
        | rem _ _ => exfalso; revert q; show (7 : Int) = 6 → False; decide
        | _ => cases hv
end
end
section
/-! Writing by the desk: bytes, numbers, words, what is written later. -/
/-- the same but for a writer's own -/
def WX (w : Nat) (c e : SC) : Prop := (nxt e = nxt c ∧ slo e = slo c) ∧ (∀ a, kl e a = kl c a ∧ le e a = le c a) ∧ (∀ a y, ¬ (a = w ∧ (y = 1 ∨ y = 3 ∨ y = 6)) → fI e a y = fI c a y) ∧ (∀ a y, fR e a y = fR c a y) ∧ ∀ a, ¬ (w < a ∧ a ≤ w + 4) → aI e a = aI c a ∧ aR e a = aR c a
theorem WX.rf {w : Nat} {c : SC} : WX w c c := ⟨⟨rfl, rfl⟩, fun _ => ⟨rfl, rfl⟩, fun _ _ _ => rfl, fun _ _ => rfl, fun _ _ => ⟨rfl, rfl⟩⟩
theorem WX.tr {w : Nat} {c e f : SC} (h1 : WX w c e) (h2 : WX w e f) : WX w c f := by
  obtain ⟨⟨a1, a2⟩, a3, a4, a5, a6⟩ := h1
  obtain ⟨⟨b1, b2⟩, b3, b4, b5, b6⟩ := h2
  exact ⟨⟨b1.trans a1, b2.trans a2⟩, fun a => ⟨(b3 a).1.trans (a3 a).1, (b3 a).2.trans (a3 a).2⟩, fun a y h => (b4 a y h).trans (a4 a y h), fun a y => (b5 a y).trans (a5 a y), fun a h => ⟨(b6 a h).1.trans (a6 a h).1, (b6 a h).2.trans (a6 a h).2⟩⟩
theorem WX.uI {w y : Nat} {z : Int} {c e : SC} (h : WX w c e) (hy : y = 1 ∨ y = 3 ∨ y = 6) : WX w c (uI e w y z) := by
  obtain ⟨a1, a3, a4, a5, a6⟩ := h
  refine ⟨a1, a3, fun a k hk => ?_, a5, a6⟩
  rw [fI_uI, if_neg (fun q => hk ⟨q.2, by rw [q.1]; exact hy⟩)]
  exact a4 a k hk
theorem WX.uA {w r : Nat} {i z : Int} {c e : SC} (h : WX w c e) (hr : w < r ∧ r ≤ w + 4) : WX w c (uA e r i z) := by
  obtain ⟨a1, a3, a4, a5, a6⟩ := h
  refine ⟨a1, a3, a4, a5, fun a ha => ⟨?_, (a6 a ha).2⟩⟩
  funext k
  rw [aI_uA, if_neg (fun q => ha (by rw [q.1]; exact hr)), (a6 a ha).1]
theorem WX.uB {w r : Nat} {i : Int} {z : Nat} {c e : SC} (h : WX w c e) (hr : w < r ∧ r ≤ w + 4) : WX w c (uB e r i z) := by
  obtain ⟨a1, a3, a4, a5, a6⟩ := h
  refine ⟨a1, a3, a4, a5, fun a ha => ⟨(a6 a ha).1, ?_⟩⟩
  funext k
  rw [aR_uB, if_neg (fun q => ha (by rw [q.1]; exact hr)), (a6 a ha).2]
/-- a writer's cells -/
def WRC (c : SC) (w : Nat) : Prop := (kl c w = 12 ∧ fR c w 0 = w + 1 ∧ fR c w 2 = w + 2 ∧ fR c w 4 = w + 3 ∧ fR c w 5 = w + 4) ∧ (kl c (w + 1) = 106 ∧ kl c (w + 2) = 100 ∧ kl c (w + 3) = 106 ∧ kl c (w + 4) = 100) ∧ le c (w + 1) = 400 ∧ le c (w + 2) = 400 ∧ le c (w + 3) = 2005 ∧ le c (w + 4) = 2005
theorem FIX.wrc {c : SC} (h : FIX c) : WRC c 183 ∧ WRC c 188 := by
  unfold WRC
  simp only [h.1, Nat.reduceAdd]
  simp
theorem WRC.x {c e : SC} {w : Nat} (h : WRC c w) (hx : WX w c e) : WRC e w := by
  obtain ⟨-, a3, -, a5, -⟩ := hx
  unfold WRC at h ⊢
  simp only [fun a => (a3 a).1, fun a => (a3 a).2, a5]
  exact h
/-- what is written: bytes, holes -/
def WO (A : Int → Nat) (P : Nat → Prop) (c : SC) (w : Nat) (o : List Int × List Term) : Prop := ((fI c w 3 = o.1.length ∧ o.1.length ≤ 400) ∧ ∀ (k : Nat) (x : Int), o.1[k]? = some x → aI c (w + 2) k = x) ∧ (fI c w 1 = o.2.length ∧ o.2.length ≤ o.1.length) ∧ ∀ (k : Nat) (V : Term), o.2[k]? = some V → DV A c P V (aR c (w + 1) k) [] ∧ isW V = true
/-- what is to be written later, the next first: a letter or a number, or a value in its cell -/
def WK (A : Int → Nat) (P : Nat → Prop) (c : SC) (w : Nat) (s : SM) (K : List (Int × Nat × Term)) : Prop := (fI c w 6 = K.length ∧ K.length ≤ 2005) ∧ ∀ (k : Nat) (q : Int × Nat × Term), K.reverse[k]? = some q → aR c (w + 3) k = q.2.1 ∧ ((q.2.2 = .null ∧ q.2.1 = 2 ∧ aI c (w + 4) k = q.1 ∧ -2147483647 ≤ q.1 ∧ q.1 ≤ 127) ∨ (isV q.2.2 = true ∧ VB s q.2.2 ∧ q.2.1 ≠ 2 ∧ DV A c P q.2.2 q.2.1 []))
section
variable {iv : List (Int × Int)} {L : Nat} {h0 : MH} {A A' : Int → Nat} {P Q : Nat → Prop} {c c0 e f : SC} {s s' : SM} {t : Term} {d p a w n : Nat} {x z : Int} {V : Term} {o : List Int × List Term} {K : List (Int × Nat × Term)} {l : List (Int × Nat)}
theorem WX.sty (h : WX w c e) (hk : kl c w = 12) : STY P P c e := fun a ha => ⟨ha, fun q => ⟨(h.2.1 a).1, fun y _ => ⟨h.2.2.1 a y (fun r => by rw [r.1] at q; omega), h.2.2.2.1 a y⟩⟩⟩
theorem DV.wx (h : WX w c e) (hk : kl c w = 12) {V : Term} {a : Nat} (hd : DV A c P V a []) : DV A e P V a [] := DV_up (h.sty hk) _ V a [] (Nat.lt_succ_self _) hd
/-- one byte more -/
theorem add_c {F : SC → Prop} (hw : WRC c w) (ho : WO A P c w o) (hk : WK A P c w s K) (hx : -128 ≤ x ∧ x ≤ 127) (hF : ∀ e, WX w c e → WO A P e w (pB x o) → WK A P e w s K → F e) : ck iv L h0 d 249 [vr w, vi x] c (qv F) := by
  obtain ⟨⟨k1, k2, k3, k4, k5⟩, ⟨k6, k7, k8, k9⟩, k10, k11, k12, k13⟩ := id hw
  obtain ⟨⟨⟨o1, o2⟩, o3⟩, ⟨o4, o5⟩, o6⟩ := id ho
  refine C249 ⟨k1, fun q => hF c WX.rf ?_ hk, fun q => ?_⟩
  · unfold pB outB
    rw [if_pos (by omega)]
    exact ho
  · rw [k3]
    have hX : WX w c (uA (uI c w 3 (fI c w 3 + 1)) (w + 2) (fI c w 3) x) := (WX.rf.uI (Or.inr (Or.inl rfl))).uA ⟨by omega, by omega⟩
    have el : (outB o.1 x).length = o.1.length + 1 := (outB_len o.1 x).2.1 (by omega)
    refine ⟨by omega, k7, by omega, hF _ hX ⟨⟨⟨?_, ?_⟩, fun k y hy => ?_⟩, ⟨?_, ?_⟩, fun k V hV => ?_⟩ ⟨⟨?_, hk.1.2⟩, fun k q hq => ?_⟩⟩
    · show fI (uI c w 3 (fI c w 3 + 1)) w 3 = _
      rw [fI_uI, if_pos ⟨rfl, rfl⟩]
      show _ = ((outB o.1 x).length : Int)
      omega
    · show (outB o.1 x).length ≤ 400
      omega
    · have hy : (outB o.1 x)[k]? = some y := hy
      unfold outB at hy
      rw [if_neg (by omega), w8_id hx.1 hx.2] at hy
      show (if w + 2 = w + 2 ∧ (k : Int) = fI c w 3 then x else aI c (w + 2) k) = y
      rcases app_at hy with hy | ⟨rfl, rfl⟩
      · have := (List.getElem?_eq_some_iff.mp hy).1
        rw [if_neg (by omega)]
        exact o3 k y hy
      · rw [if_pos ⟨rfl, by omega⟩]
    · show fI (uI c w 3 (fI c w 3 + 1)) w 1 = _
      rw [fI_uI, if_neg (by omega)]
      exact o4
    · show o.2.length ≤ (outB o.1 x).length
      omega
    · exact ⟨DV.wx hX k1 (o6 k V hV).1, (o6 k V hV).2⟩
    · show fI (uI c w 3 (fI c w 3 + 1)) w 6 = _
      rw [fI_uI, if_neg (by omega)]
      exact hk.1.1
    · obtain ⟨q1, q2⟩ := hk.2 k q hq
      refine ⟨q1, q2.imp (fun z => ⟨z.1, z.2.1, ?_, z.2.2.2⟩) (fun z => ⟨z.1, z.2.1, z.2.2.1, DV.wx hX k1 z.2.2.2⟩)⟩
      rw [aI_uA, if_neg (by omega)]
      exact z.2.2.1
/-- one thing more to be written later -/
theorem later_c {q : Int × Nat × Term} {F : SC → Prop} (hw : WRC c w) (ho : WO A P c w o) (hk : WK A P c w s K) (hl : K.length < 2005) (hq : (q.2.2 = .null ∧ q.2.1 = 2 ∧ -2147483647 ≤ q.1 ∧ q.1 ≤ 127) ∨ (isV q.2.2 = true ∧ VB s q.2.2 ∧ q.2.1 ≠ 2 ∧ DV A c P q.2.2 q.2.1 [])) (hF : ∀ e, WX w c e → WO A P e w o → WK A P e w s (q :: K) → F e) : ck iv L h0 d 248 [vr w, vr q.2.1, vi q.1] c (qv F) := by
  obtain ⟨⟨k1, k2, k3, k4, k5⟩, ⟨k6, k7, k8, k9⟩, k10, k11, k12, k13⟩ := id hw
  obtain ⟨⟨⟨o1, o2⟩, o3⟩, ⟨o4, o5⟩, o6⟩ := id ho
  obtain ⟨⟨h1, h2⟩, h3⟩ := id hk
  have kc : q.2.1 = 2 ∨ kl c q.2.1 = 10 := hq.imp (fun z => z.2.1) (fun z => (DV_kind z.1 z.2.2.2).1.2)
  refine C248 ⟨k1, fun r => by omega, fun r => ?_⟩
  rw [k4, k5]
  have hX : WX w c (uI (uA (uB c (w + 3) (fI c w 6) q.2.1) (w + 4) (fI c w 6) q.1) w 6 (fI c w 6 + 1)) := ((WX.rf.uB ⟨by omega, by omega⟩).uA ⟨by omega, by omega⟩).uI (Or.inr (Or.inr rfl))
  refine ⟨k8, by omega, kc, k9, by omega, by omega, hF _ hX ⟨⟨⟨?_, o2⟩, fun k y hy => ?_⟩, ⟨?_, o5⟩, fun k V hV => ?_⟩ ⟨⟨?_, ?_⟩, fun k y hy => ?_⟩⟩
  · rw [fI_uI, if_neg (by omega)]; exact o1
  · rw [aI_uI, aI_uA, if_neg (by omega)]; exact o3 k y hy
  · rw [fI_uI, if_neg (by omega)]; exact o4
  · refine ⟨?_, (o6 k V hV).2⟩
    rw [aR_uI, aR_uA, aR_uB, if_neg (by omega)]
    exact DV.wx hX k1 (o6 k V hV).1
  · rw [fI_uI, if_pos ⟨rfl, rfl⟩]
    simp; omega
  · simp; omega
  · rw [List.reverse_cons] at hy
    have e3 : ∀ k : Int, aR (uI (uA (uB c (w + 3) (fI c w 6) q.2.1) (w + 4) (fI c w 6) q.1) w 6 (fI c w 6 + 1)) (w + 3) k = if k = fI c w 6 then q.2.1 else aR c (w + 3) k := fun k => by rw [aR_uI, aR_uA, aR_uB]; simp
    have e4 : ∀ k : Int, aI (uI (uA (uB c (w + 3) (fI c w 6) q.2.1) (w + 4) (fI c w 6) q.1) w 6 (fI c w 6 + 1)) (w + 4) k = if k = fI c w 6 then q.1 else aI c (w + 4) k := fun k => by rw [aI_uI, aI_uA, aI_uB]; simp
    rw [e3, e4]
    rcases app_at hy with hy | ⟨rfl, rfl⟩
    · have hl2 := (List.getElem?_eq_some_iff.mp hy).1
      rw [List.length_reverse] at hl2
      rw [if_neg (by omega), if_neg (by omega)]
      obtain ⟨q1, q2⟩ := h3 k y hy
      exact ⟨q1, q2.imp (fun z => z) (fun z => ⟨z.1, z.2.1, z.2.2.1, DV.wx hX k1 z.2.2.2⟩)⟩
    · rw [List.length_reverse, if_pos (by omega), if_pos (by omega)]
      exact ⟨rfl, hq.imp (fun z => ⟨z.1, z.2.1, rfl, z.2.2⟩) (fun z => ⟨z.1, z.2.1, z.2.2.1, DV.wx hX k1 z.2.2.2⟩)⟩
/-- digits, the highest first -/
def hdg : Nat → Int → List Int
  | 0, z => [z % 10]
  | k + 1, z => (if z < p10 (k + 1) then [] else [z / p10 (k + 1) % 10]) ++ hdg k z
theorem hdg_lo : ∀ (k : Nat) (z : Int), 0 ≤ z → k ≤ 8 → hdg (k + 1) z = (if 0 < z / 10 then hdg k (z / 10) else []) ++ [z % 10] := by
  intro k
  induction k with
  | zero =>
    intro z hz _
    show (if z < p10 1 then [] else [z / p10 1 % 10]) ++ [z % 10] = _
    rw [show p10 1 = 10 by decide]
    by_cases q : z < 10
    · rw [if_pos q, if_neg (by omega)]
    · rw [if_neg q, if_pos (by omega)]; rfl
  | succ k ih =>
    intro z hz hk
    have hp := p10_le (k + 1) (by omega)
    have e : p10 (k + 1 + 1) = 10 * p10 (k + 1) := rfl
    show (if z < p10 (k + 1 + 1) then [] else [z / p10 (k + 1 + 1) % 10]) ++ hdg (k + 1) z = (if 0 < z / 10 then (if z / 10 < p10 (k + 1) then [] else [z / 10 / p10 (k + 1) % 10]) ++ hdg k (z / 10) else []) ++ [z % 10]
    rw [ih z hz (by omega), e]
    generalize p10 (k + 1) = m at *
    have ed : z / 10 / m = z / (10 * m) := by
      obtain ⟨n, rfl⟩ := Int.eq_ofNat_of_zero_le hz
      obtain ⟨j, rfl⟩ := Int.eq_ofNat_of_zero_le (show 0 ≤ m by omega)
      have := Nat.div_div_eq_div_mul n 10 j
      exact_mod_cast this
    rw [ed]
    by_cases q0 : 0 < z / 10
    · rw [if_pos q0, if_pos q0]
      by_cases q : z < 10 * m
      · rw [if_pos q, if_pos (by omega)]; simp
      · rw [if_neg q, if_neg (by omega)]; simp
    · rw [if_neg q0, if_neg q0, if_pos (by omega)]
      simp
theorem hdg_eq : ∀ (k : Nat) (z : Int), 0 ≤ z → k ≤ 9 → (dgs (k + 1) z).reverse = hdg k z := by
  intro k
  induction k with
  | zero =>
    intro z hz _
    show (z % 10 :: (if 0 < z / 10 then dgs 0 (z / 10) else [])).reverse = [z % 10]
    have : (if 0 < z / 10 then dgs 0 (z / 10) else []) = [] := by split <;> rfl
    rw [this]; rfl
  | succ k ih =>
    intro z hz hk
    rw [hdg_lo k z hz (by omega), ← ih (z / 10) (by omega) (by omega)]
    show (z % 10 :: (if 0 < z / 10 then dgs (k + 1) (z / 10) else [])).reverse = _
    rw [List.reverse_cons]
    by_cases q : 0 < z / 10
    · rw [if_pos q, if_pos q]
    · rw [if_neg q, if_neg q]; rfl
theorem dgts_c {F : SC → Prop} : ∀ (k : Nat) (c : SC) (o : List Int × List Term), k ≤ 9 → 0 ≤ z → z ≤ 2147483648 → WRC c w → WO A P c w o → WK A P c w s K → (∀ e, WX w c e → WO A P e w ((hdg k z).foldl (fun o x => outB o (48 + x)) o.1, o.2) → WK A P e w s K → F e) → wk iv L h0 (d + 1) 251 23 [lr w, ln, ll z, ln, ll (p10 k)] [] c (qv F) := by
  have dgt : ∀ m : Int, 0 ≤ m → w32 (48 + (m.tdiv 1 - (m.tdiv 1).tdiv 10 * 10)) = w32 (48 + (m.tdiv 1 - (m.tdiv 1).tdiv 10 * 10)) := fun _ _ => rfl
  have dg1 : ∀ m : Int, 0 ≤ m → w32 (48 + (m - m.tdiv 10 * 10)) = 48 + m % 10 := fun m hm => by
    rw [Int.tdiv_eq_ediv_of_nonneg hm, w32_id (by unfold inR; omega)]; omega
  intro k
  induction k with
  | zero =>
    intro c o _ z0 z1 hw ho hk hF
    have e0 : p10 0 = 1 := rfl
    rw [e0]
    have c1 : lcp 1 0 = 1 := by decide
    have c2 : lcp 1 1 = 0 := by decide
    refine C251_23 ⟨by unfold inL; omega, by unfold inL; omega, fun q => by omega, fun _ => ⟨by unfold inL; omega, fun _ => ?_, fun q => absurd c2 q⟩⟩
    rw [Int.tdiv_one, dg1 z z0]
    have et : z.tdiv 10 = z / 10 := Int.tdiv_eq_ediv_of_nonneg z0
    refine ⟨by unfold inL; omega, by decide, by unfold inL; omega, by unfold inL; omega, by rw [et]; unfold inL; omega, hw.1.1, ?_⟩
    refine add_c hw ho hk (by omega) (fun e h1 h2 h3 => ⟨by unfold inL; decide, ?_⟩)
    have c3 : (1 : Int).tdiv 10 = 0 := by decide
    rw [c3]
    have c4 : lcp 0 0 = 0 := by decide
    exact C251_23 ⟨by unfold inL; omega, by unfold inL; omega, fun _ => hF e h1 h2 h3, fun q => by omega⟩
  | succ k ih =>
    intro c o hk9 z0 z1 hw ho hk hF
    have hp := p10_le (k + 1) (by omega)
    have hp' := p10_le k (by omega)
    have e0 : p10 (k + 1) = 10 * p10 k := rfl
    have eh : hdg (k + 1) z = (if z < p10 (k + 1) then [] else [z / p10 (k + 1) % 10]) ++ hdg k z := rfl
    have et : (p10 (k + 1)).tdiv 10 = p10 k := by rw [Int.tdiv_eq_ediv_of_nonneg (by omega)]; omega
    have c1 : lcp (p10 (k + 1)) 0 = 1 := by unfold lcp; rw [if_pos (by omega)]
    have c2 : lcp (p10 (k + 1)) 1 = 1 := by unfold lcp; rw [if_pos (by omega)]
    rw [eh] at hF
    generalize p10 (k + 1) = m at *
    refine C251_23 ⟨by unfold inL; omega, by unfold inL; omega, fun q => by omega, fun _ => ⟨by unfold inL; omega, fun q => by omega, fun _ => ⟨by unfold inL; omega, fun q => ?_, fun q => ?_⟩⟩⟩
    · have q1 : z < m := by
        unfold lcp at q
        split at q
        · omega
        · split at q <;> omega
      rw [if_pos q1, List.nil_append] at hF
      rw [et]
      exact ⟨by unfold inL; omega, by unfold inL; omega, ih c o (by omega) z0 z1 hw ho hk hF⟩
    · have q1 : ¬ z < m := by
        unfold lcp at q
        intro q1
        rw [if_neg (by omega), if_neg (by omega)] at q
        omega
      rw [if_neg q1] at hF
      have ed : z.tdiv m = z / m := Int.tdiv_eq_ediv_of_nonneg z0
      have hdv : 0 ≤ z / m := Int.ediv_nonneg z0 (by omega)
      have hdl : z / m ≤ z := Int.ediv_le_self m z0
      have et2 : (z / m).tdiv 10 = z / m / 10 := Int.tdiv_eq_ediv_of_nonneg hdv
      rw [ed, dg1 _ hdv, et]
      refine ⟨by omega, by unfold inL; omega, by unfold inL; omega, by rw [et2]; unfold inL; omega, hw.1.1, ?_⟩
      refine add_c hw ho hk (by omega) (fun e h1 h2 h3 => ⟨by unfold inL; omega, ?_⟩)
      exact ih e _ (by omega) z0 z1 (hw.x h1) h2 h3 (fun f f1 f2 f3 => hF f (h1.tr f1) f2 f3)
theorem num_c {F : SC → Prop} (hw : WRC c w) (ho : WO A P c w o) (hk : WK A P c w s K) (hz : -2147483648 ≤ z ∧ z ≤ 2147483647) (hF : ∀ e, WX w c e → WO A P e w (pN z o) → WK A P e w s K → F e) : ck iv L h0 (d + 1) 251 [vr w, vi z] c (qv F) := by
  have c9 : p10 9 = 1000000000 := by decide
  have lz : lcp z 0 < 0 ↔ z < 0 := by
    unfold lcp
    split
    · omega
    · split <;> omega
  refine C251 ⟨by unfold inL; omega, by unfold inL; omega, fun q => ?_, fun q => ⟨hw.1.1, ?_⟩⟩
  · have q0 : ¬ z < 0 := fun w => by have := lz.mpr w; omega
    have := dgts_c (iv := iv) (L := L) (h0 := h0) (d := d) (z := z) (F := F) 9 c o (Nat.le_refl _) (by omega) (by omega) hw ho hk (fun e h1 h2 h3 => hF e h1 ?_ h3)
    · rw [c9] at this; exact this
    · rw [← hdg_eq 9 z (by omega) (Nat.le_refl _)] at h2
      unfold pN outN
      rw [if_neg q0, if_neg q0]
      exact h2
  · have q0 : z < 0 := lz.mp q
    refine add_c hw ho hk (by decide) (fun e h1 h2 h3 => ?_)
    have := dgts_c (iv := iv) (L := L) (h0 := h0) (d := d) (z := -z) (F := F) 9 e _ (Nat.le_refl _) (by omega) (by omega) (hw.x h1) h2 h3 (fun f f1 f2 f3 => hF f (h1.tr f1) ?_ f3)
    · rw [c9] at this; exact this
    · rw [← hdg_eq 9 (-z) (by omega) (Nat.le_refl _)] at f2
      unfold pN outN
      rw [if_pos q0, if_pos q0]
      exact f2
end
end
section
/-! Writing by the desk: words, one thing of what is to be written (C250 to C254). -/
def apK (so : Int → Int) (q : Int × Nat × Term) (o : List Int × List Term) : List Int × List Term := match q.2.2 with
  | .null => if 0 ≤ q.1 then pB q.1 o else pN (-1 - q.1) o
  | V => outT so V o
def runK (so : Int → Int) (K : List (Int × Nat × Term)) (o : List Int × List Term) : List Int × List Term := K.foldl (fun o q => apK so q o) o
theorem apK_v {so : Int → Int} {V : Term} (h : isV V = true) (k : Int) (x : Nat) (o : List Int × List Term) : apK so (k, x, V) o = outT so V o := by
  cases V <;> first | rfl | cases h
theorem apK_c {so : Int → Int} {k : Int} (h : 0 ≤ k) (x : Nat) (o : List Int × List Term) : apK so (k, x, .null) o = pB k o := if_pos h
theorem apK_n {so : Int → Int} {k : Int} (h : ¬ 0 ≤ k) (x : Nat) (o : List Int × List Term) : apK so (k, x, .null) o = pN (-1 - k) o := if_neg h
theorem runK_c (so : Int → Int) (q : Int × Nat × Term) (K : List (Int × Nat × Term)) (o : List Int × List Term) : runK so (q :: K) o = runK so K (apK so q o) := rfl
theorem outB_full {o : List Int} (h : o.length = 400) (x : Int) : outB o x = o := if_pos (by omega)
theorem fold_full {α : Type} (f : α → Int) {o : List Int} (h : o.length = 400) : ∀ (m : List α), m.foldl (fun o c => outB o (f c)) o = o := by
  intro m
  induction m with
  | nil => rfl
  | cons a m ih => show m.foldl (fun o c => outB o (f c)) (outB o (f a)) = o; rw [outB_full h]; exact ih
theorem pB_full {o : List Int × List Term} (h : o.1.length = 400) (x : Int) : pB x o = o := by unfold pB; rw [outB_full h]
theorem pN_full {o : List Int × List Term} (h : o.1.length = 400) (z : Int) : pN z o = o := by
  unfold pN outN
  rw [outB_full h, ite_self, fold_full (fun x => 48 + x) h]
theorem pW_full {o : List Int × List Term} (h : o.1.length = 400) (a : Nat) : pW a o = o := by
  unfold pW outW
  rw [fold_full (fun c : Int32 => c.toInt) h]
theorem outT_full {so : Int → Int} {o : List Int × List Term} (h : o.1.length = 400) (V : Term) : outT so V o = o := by
  have g : ∀ x, gd o x = o := fun x => if_pos h
  cases V with
  | int z => exact g _
  | arg z => exact g _
  | index z => exact g _
  | sub b E => cases b <;> first | rfl | exact g _
  | add x y => exact g _
  | div b E => cases b <;> first | rfl | exact g _
  | length x => exact g _
  | rem b z =>
    cases b with
    | index b =>
      cases z with
      | elem x z =>
        cases z with
        | elem y E => exact g _
        | _ => rfl
      | _ => rfl
    | _ => rfl
  | _ => rfl
theorem runK_full {so : Int → Int} : ∀ (K : List (Int × Nat × Term)) (o : List Int × List Term), o.1.length = 400 → runK so K o = o := by
  intro K
  induction K with
  | nil => intro o _; rfl
  | cons q K ih =>
    intro o h
    rw [runK_c]
    have : apK so q o = o := by
      obtain ⟨k, x, V⟩ := q
      cases V <;> first | (exact outT_full h _) | (by_cases hk : 0 ≤ k; exact (apK_c hk x o).trans (pB_full h _); exact (apK_n hk x o).trans (pN_full h _))
    rw [this]
    exact ih o h
theorem words_eq : strT 9 = strT 19 ∧ strT 10 = strT 20 ∧ strT 11 = strT 21 ∧ strT 12 = strT 22 ∧ strT 13 = strT 23 ∧ strT 14 = strT 24 ∧ strT 15 = strT 25 ∧ strT 16 = strT 26 ∧ strT 17 = strT 27 ∧ strT 18 = strT 28 := by decide +kernel
theorem words_in : ∀ a, a < 10 → ((strT (a + 9)).all fun c => decide (0 ≤ c.toInt ∧ c.toInt ≤ 127)) = true ∧ 1 ≤ (strT (a + 9)).length := by decide +kernel
section
variable {iv : List (Int × Int)} {L : Nat} {h0 : MH} {A A' : Int → Nat} {P Q : Nat → Prop} {c c0 e f : SC} {s s' : SM} {t : Term} {d p a w n : Nat} {x z : Int} {V : Term} {o : List Int × List Term} {K : List (Int × Nat × Term)} {l : List (Int × Nat)}
theorem text_at {F : SC → Prop} (ha : 8 ≤ a ∧ a < 8 + NS0) : ∀ (m p : List Int32) (o : List Int × List Term) (c : SC), strT a = p ++ m → (∀ q, q ∈ m → 0 ≤ q.toInt ∧ q.toInt ≤ 127) → WRC c w → WO A P c w o → WK A P c w s K → (∀ e, WX w c e → WO A P e w (m.foldl (fun o c => outB o c.toInt) o.1, o.2) → WK A P e w s K → F e) → wk iv L h0 (d + 1) 250 2 [lr w, lr a, li p.length] [] c (qv F) := by
  intro m
  induction m with
  | nil =>
    intro p o c e _ hw ho hk hF
    have el : slen a = p.length := by unfold slen; rw [e]; simp
    exact C250_2 ⟨ha, fun _ => hF c WX.rf ho hk, fun q => by omega⟩
  | cons b m ih =>
    intro p o c e hm hw ho hk hF
    have hb := (str_at (L := L) ha).2
    have el : slen a = p.length + (m.length + 1) := by unfold slen; rw [e]; simp
    have ec : scat a p.length = b.toInt := by unfold scat; rw [e]; simp
    have e' : strT a = (p ++ [b]) ++ m := by rw [e]; simp
    have el2 : ((p ++ [b]).length : Int) = p.length + 1 := by simp
    have hs : slen a ≤ 100 := by unfold slen; omega
    refine C250_2 ⟨ha, fun q => by omega, fun _ => ⟨by omega, hw.1.1, ?_⟩⟩
    rw [ec]
    have hb2 := hm b (List.mem_cons_self ..)
    refine add_c hw ho hk (by omega) (fun e1 h1 h2 h3 => ⟨by omega, ?_⟩)
    have := ih (p ++ [b]) _ e1 e' (fun q hq => hm q (List.mem_cons_of_mem _ hq)) (hw.x h1) h2 h3 (fun u u1 u2 u3 => hF u (h1.tr u1) u2 u3)
    rw [el2] at this
    exact this
theorem text_c {F : SC → Prop} (ha : 9 ≤ a ∧ a < 19) (hw : WRC c w) (ho : WO A P c w o) (hk : WK A P c w s K) (hF : ∀ e, WX w c e → WO A P e w (pW a o) → WK A P e w s K → F e) : ck iv L h0 (d + 1) 250 [vr w, vr a] c (qv F) := by
  have hn0 : 19 ≤ 8 + NS0 := by decide
  have hn : 8 ≤ a ∧ a < 8 + NS0 := ⟨by omega, by omega⟩
  have hi := (words_in (a - 9) (by omega)).1
  rw [show a - 9 + 9 = a by omega] at hi
  refine C250 (text_at hn (strT a) [] o c rfl (fun q hq => ?_) hw ho hk (fun e h1 h2 h3 => hF e h1 h2 h3))
  exact of_decide_eq_true (List.all_eq_true.mp hi q hq)
theorem pW_eq {a b : Nat} (h : strT a = strT b) (o : List Int × List Term) : pW a o = pW b o := by unfold pW outW; rw [h]
theorem word_c {k : Int} {F : Nat → SC → Prop} (hF : ∀ a, 9 ≤ a ∧ a < 19 → (∀ o, pW a o = pW (wrd k) o) → (∀ o : List Int × List Term, o.1.length < 400 → o.1.length < (pW a o).1.length) → F a c) : ck iv L h0 d 254 [vi k] c (qa F) := by
  obtain ⟨-, -, w1, w2, w3, w4, w5, w6, w7, w8⟩ := words_eq
  have ln : ∀ a, 9 ≤ a ∧ a < 19 → ∀ o : List Int × List Term, o.1.length < 400 → o.1.length < (pW a o).1.length := fun a ha o ho => by
    have h1 := (words_in (a - 9) (by omega)).2
    rw [show a - 9 + 9 = a by omega] at h1
    show o.1.length < (outW a o.1).length
    unfold outW
    cases h : strT a with
    | nil => rw [h] at h1; simp at h1
    | cons b m =>
      show o.1.length < (m.foldl (fun o c => outB o c.toInt) (outB o.1 b.toInt)).length
      have := fold_ge (fun c : Int32 => c.toInt) m (outB o.1 b.toInt)
      have := (outB_len o.1 b.toInt).2.1 ho
      omega
  refine C254 ⟨fun q => ?_, fun q => ?_, fun q => ?_, fun q => ?_, fun q => ?_, fun q => ?_, fun q => ?_, fun q => ?_⟩
  · exact hF 11 (by decide) (fun o => by rw [q]; exact pW_eq w1 o) (ln 11 (by decide))
  · exact hF 12 (by decide) (fun o => by rw [q]; exact pW_eq w2 o) (ln 12 (by decide))
  · exact hF 13 (by decide) (fun o => by rw [q]; exact pW_eq w3 o) (ln 13 (by decide))
  · exact hF 14 (by decide) (fun o => by rw [q]; exact pW_eq w4 o) (ln 14 (by decide))
  · refine hF 18 (by decide) (fun o => ?_) (ln 18 (by decide))
    unfold wrd
    rw [if_neg (by omega), if_neg (by omega), if_neg (by omega), if_neg (by omega), if_neg (by omega), if_neg (by omega), if_neg (by omega)]
    exact pW_eq w8 o
  · exact hF 15 (by decide) (fun o => by rw [q]; exact pW_eq w5 o) (ln 15 (by decide))
  · exact hF 16 (by decide) (fun o => by rw [q]; exact pW_eq w6 o) (ln 16 (by decide))
  · exact hF 17 (by decide) (fun o => by rw [q]; exact pW_eq w7 o) (ln 17 (by decide))
/-- one thing more, if there is room -/
theorem later_w {q : Int × Nat × Term} {F : SC → Prop} (hw : WRC c w) (ho : WO A P c w o) (hk : WK A P c w s K) (hq : (q.2.2 = .null ∧ q.2.1 = 2 ∧ -2147483647 ≤ q.1 ∧ q.1 ≤ 127) ∨ (isV q.2.2 = true ∧ VB s q.2.2 ∧ q.2.1 ≠ 2 ∧ DV A c P q.2.2 q.2.1 [])) (hF : ∀ e K', WX w c e → WO A P e w o → WK A P e w s K' → (K.length < 2005 → K' = q :: K) → F e) : ck iv L h0 d 248 [vr w, vr q.2.1, vi q.1] c (qv F) := by
  by_cases hl : K.length < 2005
  · exact later_c hw ho hk hl hq (fun e h1 h2 h3 => hF e _ h1 h2 h3 (fun _ => rfl))
  · exact C248 ⟨hw.1.1, fun _ => hF c K WX.rf ho hk (fun w => absurd w hl), fun r => by have := hk.1; omega⟩
/-- a hole is noted, its mark is written -/
theorem hole_w {F : SC → Prop} (hw : WRC c w) (ho : WO A P c w o) (hk : WK A P c w s K) (hl : o.1.length < 400) (hV0 : isW V = true ∧ isV V = true ∧ DV A c P V a []) (hF : ∀ e, WX w c e → WO A P e w (pB 63 (o.1, o.2 ++ [V])) → WK A P e w s K → F e) : (fI c w 3 < 400 → (-2147483648 ≤ (fI c w 1) + 1 ∧ (fI c w 1) + 1 ≤ 2147483647) ∧ (kl c (fR c w 0) = 106) ∧ (0 ≤ fI c w 1 ∧ fI c w 1 < le c (fR c w 0)) ∧ (a = 2 ∨ kl c a = 10) ∧ ck iv L h0 d 249 [vr w, vi 63] (uB (uI c w 1 ((fI c w 1) + 1)) (fR c w 0) (fI c w 1) a) (qv F)) := fun _ => by
  obtain ⟨⟨k1, k2, k3, k4, k5⟩, ⟨k6, k7, k8, k9⟩, k10, k11, k12, k13⟩ := id hw
  obtain ⟨⟨⟨o1, o2⟩, o3⟩, ⟨o4, o5⟩, o6⟩ := id ho
  rw [k2]
  refine ⟨by omega, k6, by omega, Or.inr (DV_kind hV0.2.1 hV0.2.2).1.2, ?_⟩
  generalize hu : uB (uI c w 1 (fI c w 1 + 1)) (w + 1) (fI c w 1) a = u
  have hX0 : WX w c u := by rw [← hu]; exact (WX.rf.uI (Or.inl rfl)).uB ⟨by omega, by omega⟩
  have u3 : fI u w 3 = fI c w 3 := by rw [← hu, fI_uB, fI_uI, if_neg (by omega)]
  have u1 : fI u w 1 = fI c w 1 + 1 := by rw [← hu, fI_uB, fI_uI, if_pos ⟨rfl, rfl⟩]
  have u6 : fI u w 6 = fI c w 6 := by rw [← hu, fI_uB, fI_uI, if_neg (by omega)]
  have uB1 : ∀ k : Int, aR u (w + 1) k = if k = fI c w 1 then a else aR c (w + 1) k := fun k => by rw [← hu, aR_uB, aR_uI]; simp
  have uB3 : aR u (w + 3) = aR c (w + 3) := by funext k; rw [← hu, aR_uB, aR_uI, if_neg (by omega)]
  have uI2 : aI u = aI c := by rw [← hu]; rfl
  have hwu := hw.x hX0
  clear hu
  refine C249 ⟨hwu.1.1, fun q => by omega, fun q => ?_⟩
  rw [hwu.1.2.2.1, u3]
  have hX : WX w c (uA (uI u w 3 (fI c w 3 + 1)) (w + 2) (fI c w 3) 63) := (hX0.uI (Or.inr (Or.inl rfl))).uA ⟨by omega, by omega⟩
  have el : (outB o.1 63).length = o.1.length + 1 := (outB_len o.1 63).2.1 hl
  refine ⟨by omega, hwu.2.1.2.1, ⟨by omega, by rw [hwu.2.2.2.1]; omega⟩, hF _ hX ⟨⟨⟨?_, ?_⟩, fun k y hy => ?_⟩, ⟨?_, ?_⟩, fun k V hV => ?_⟩ ⟨⟨?_, hk.1.2⟩, fun k q hq => ?_⟩⟩
  · show fI (uI u w 3 (fI c w 3 + 1)) w 3 = ((outB o.1 63).length : Int)
    rw [fI_uI, if_pos ⟨rfl, rfl⟩]
    omega
  · show (outB o.1 63).length ≤ 400
    omega
  · have hy : (outB o.1 63)[k]? = some y := hy
    unfold outB at hy
    rw [if_neg (by omega), w8_id (by decide) (by decide)] at hy
    show (if w + 2 = w + 2 ∧ (k : Int) = fI c w 3 then 63 else aI u (w + 2) k) = y
    rcases app_at hy with hy | ⟨rfl, rfl⟩
    · have := (List.getElem?_eq_some_iff.mp hy).1
      rw [if_neg (by omega), uI2]
      exact o3 k y hy
    · rw [if_pos ⟨rfl, by omega⟩]
  · show fI (uI u w 3 (fI c w 3 + 1)) w 1 = ((o.2 ++ [_]).length : Int)
    rw [fI_uI, if_neg (by omega), u1]
    simp; omega
  · show (o.2 ++ [_]).length ≤ (outB o.1 63).length
    simp; omega
  · rw [aR_uA, aR_uI, uB1]
    rcases app_at (show (o.2 ++ [_])[k]? = some V from hV) with hV | ⟨rfl, rfl⟩
    · have := (List.getElem?_eq_some_iff.mp hV).1
      rw [if_neg (by omega)]
      exact ⟨DV.wx hX k1 (o6 k V hV).1, (o6 k V hV).2⟩
    · rw [if_pos (by omega)]
      exact ⟨DV.wx hX k1 hV0.2.2, hV0.1⟩
  · show fI (uI u w 3 (fI c w 3 + 1)) w 6 = _
    rw [fI_uI, if_neg (by omega), u6]
    exact hk.1.1
  · obtain ⟨q1, q2⟩ := hk.2 k q hq
    have e4 : aI (uA (uI u w 3 (fI c w 3 + 1)) (w + 2) (fI c w 3) 63) (w + 4) k = aI c (w + 4) k := by rw [aI_uA, if_neg (by omega), aI_uI, uI2]
    rw [aR_uA, aR_uI, uB3, e4]
    exact ⟨q1, q2.imp id (fun z => ⟨z.1, z.2.1, z.2.2.1, DV.wx hX k1 z.2.2.2⟩)⟩
end
end
section
/-! Writing by the desk: a value's own part; all of a value (C252, C253, C247). -/
/-- nodes born, for writing -/
def NDW (A : Int → Nat) (c : SC) (s : SM) : Prop := (∀ b, 0 ≤ b → b < s.1 8 → kl c (A b) = 5 ∧ fI c (A b) 0 = b ∧ fI c (A b) 1 = s.2 9 b) ∧ s.1 8 ≤ 3004
/-- a step of writing was right -/
def OST (so : Int → Int) (V : Term) (o : List Int × List Term) (K : List (Int × Nat × Term)) (o' : List Int × List Term) (K' : List (Int × Nat × Term)) : Prop := runK so K' o' = runK so K (outT so V o) ∧ (o.1.length < 400 → o.1.length < o'.1.length ∧ (o'.1.length < 400 → K'.length + 3 * o.1.length ≤ K.length + 1 + 3 * o'.1.length)) ∧ o.1.length ≤ o'.1.length
theorem OST_of {so : Int → Int} {V : Term} {o o' : List Int × List Term} {K K' : List (Int × Nat × Term)} (hl : o.1.length ≤ 400) (h1 : o.1.length = 400 → o' = o) (h2 : o.1.length < 400 → runK so K' o' = runK so K (outT so V o) ∧ o.1.length < o'.1.length ∧ (o'.1.length < 400 → K'.length + 3 * o.1.length ≤ K.length + 1 + 3 * o'.1.length)) : OST so V o K o' K' := by
  by_cases h : o.1.length < 400
  · exact ⟨(h2 h).1, fun _ => (h2 h).2, Nat.le_of_lt (h2 h).2.1⟩
  · have h4 : o.1.length = 400 := by omega
    refine ⟨?_, fun w => absurd w h, by rw [h1 h4]; exact Nat.le_refl _⟩
    rw [h1 h4, outT_full h4, runK_full _ _ h4, runK_full _ _ h4]
theorem pB_len (x : Int) (o : List Int × List Term) : o.1.length ≤ (pB x o).1.length ∧ (o.1.length < 400 → (pB x o).1.length = o.1.length + 1) := ⟨(outB_len o.1 x).1, (outB_len o.1 x).2.1⟩
theorem pN_len (z : Int) (o : List Int × List Term) : o.1.length ≤ (pN z o).1.length := outN_ge z o.1
theorem pN_lt (z : Int) (o : List Int × List Term) (h : o.1.length < 400) : o.1.length < (pN z o).1.length := by
  show o.1.length < (outN z o.1).length
  unfold outN
  by_cases q : z < 0
  · rw [if_pos q, if_pos q]
    have := fold_ge (fun x : Int => 48 + x) (dgs 10 (-z)).reverse (outB o.1 45)
    have := (outB_len o.1 45).2.1 h
    omega
  · rw [if_neg q, if_neg q]
    rw [hdg_eq 9 z (by omega) (by decide)]
    have e : ∃ m x, hdg 9 z = m ++ [x] := ⟨_, z % 10, hdg_lo 8 z (by omega) (by decide)⟩
    obtain ⟨m, x, e⟩ := e
    rw [e, List.foldl_append]
    show o.1.length < (outB (m.foldl (fun o x => outB o (48 + x)) o.1) (48 + x)).length
    have h1 := fold_ge (fun x : Int => 48 + x) m o.1
    have h2 := outB_len (m.foldl (fun o x => outB o (48 + x)) o.1) (48 + x)
    by_cases q2 : (m.foldl (fun o x => outB o (48 + x)) o.1).length < 400
    · have := h2.2.1 q2; omega
    · omega
section
variable {iv : List (Int × Int)} {L : Nat} {h0 : MH} {A A' : Int → Nat} {P Q : Nat → Prop} {c c0 e f : SC} {s s' : SM} {t : Term} {d p a w n : Nat} {x z : Int} {V X Y E : Term} {o : List Int × List Term} {K : List (Int × Nat × Term)} {l : List (Int × Nat)}
theorem NDW.wx (h : NDW A c s) (hx : WX w c e) (hk : kl c w = 12) : NDW A e s := ⟨fun b b0 b1 => by
  obtain ⟨h1, h2, h3⟩ := h.1 b b0 b1
  have hn : A b ≠ w := fun q => by rw [q] at h1; omega
  exact ⟨(hx.2.1 _).1.trans h1, (hx.2.2.1 _ _ (fun q => hn q.1)).trans h2, (hx.2.2.1 _ _ (fun q => hn q.1)).trans h3⟩, h.2⟩
theorem later_n {k : Int} {F : SC → Prop} (hw : WRC c w) (ho : WO A P c w o) (hk : WK A P c w s K) (hq : -2147483647 ≤ k ∧ k ≤ 127) (hF : ∀ e K', WX w c e → WO A P e w o → WK A P e w s K' → (K.length < 2005 → K' = (k, 2, .null) :: K) → F e) : ck iv L h0 d 248 [vr w, vr 2, vi k] c (qv F) := later_w (q := (k, 2, .null)) hw ho hk (Or.inl ⟨rfl, rfl, hq⟩) hF
theorem later_v {x : Nat} {F : SC → Prop} (hw : WRC c w) (ho : WO A P c w o) (hk : WK A P c w s K) (hX : isV X = true ∧ VB s X) (hx : x ≠ 2 ∧ DV A c P X x []) (hF : ∀ e K', WX w c e → WO A P e w o → WK A P e w s K' → (K.length < 2005 → K' = (0, x, X) :: K) → F e) : ck iv L h0 d 248 [vr w, vr x, vi 0] c (qv F) := later_w (q := (0, x, X)) hw ho hk (Or.inr ⟨hX.1, hX.2, hx.1, hx.2⟩) hF
/-- what waits on one -/
theorem act_w {n : Nat} {F : SC → Prop} (hP : ∀ a, P a → a ≠ 2) (hw : WRC c w) (hN : NDW A c s) (ho : WO A P c w o) (hk : WK A P c w s K) (hl : o.1.length < 400 → K.length + 10 < 2005) (hV : VB s (.rem (.index n) (.elem X (.elem Y E)))) (hv : DV A c P (.rem (.index n) (.elem X (.elem Y E))) a []) (hF : ∀ e o' K', WX w c e → WO A P e w o' → WK A P e w s K' → OST (s.2 9) (.rem (.index n) (.elem X (.elem Y E))) o K o' K' → F e) : ck iv L h0 (d + 2) 253 [vr w, vr a] c (qv F) := by
  have hol := ho.1.1.2
  obtain ⟨⟨hn8, hXv, hXb⟩, hYc, -⟩ := hV
  have hYv : Y ≠ .null → isV Y = true ∧ VB s Y := fun q => hYc.resolve_right q
  have gN : ∀ {e : SC}, WX w c e → kl e (A n) = 5 ∧ fI e (A n) 0 = n ∧ fI e (A n) 1 = s.2 9 n := fun hx => (hN.wx hx hw.1.1).1 n (by omega) hn8
  -- the value's cell, whatever was written
  have cell : ∀ {e : SC}, WX w c e → kl e a = 10 ∧ fR e a 2 = A n ∧ (fR e a 3 ≠ 2 ∧ DV A e P X (fR e a 3) []) ∧ (Y = .null ↔ fR e a 4 = 2) ∧ (Y ≠ .null → DV A e P Y (fR e a 4) []) := fun hx => by
    obtain ⟨⟨⟨h1, h1'⟩, h2⟩, h2', h3, h4, h5, h5', h6⟩ := DV.wx hx hw.1.1 hv
    exact ⟨h1', h2', ⟨hP _ (DV_kind hXv h4).1.1, h4⟩, h5, h5'⟩
  have hg : ∀ z, gd o z = if o.1.length = 400 then o else z := fun z => rfl
  have eT : o.1.length < 400 → outT (s.2 9) (.rem (.index n) (.elem X (.elem Y E))) o = outZ (s.2 9 n) n (if isV Y = true then outT (s.2 9) Y (pB 32 (outT (s.2 9) X (pB 32 (pW (wrd (s.2 9 n)) (pB 40 o))))) else outT (s.2 9) X (pB 32 (pW (wrd (s.2 9 n)) (pB 40 o)))) := fun h => if_neg (by omega)
  refine C253 ⟨hw.1.1, add_c hw ho hk (by decide) (fun e1 x1 o1 s1 => ?_)⟩
  obtain ⟨c1, c2, -⟩ := cell x1
  have n1 := gN x1
  rw [c2, n1.2.2]
  refine ⟨c1, n1.1, word_c (fun tx htx hw1 hw2 => ⟨(hw.x x1).1.1, text_c htx (hw.x x1) o1 s1 (fun e2 x2 o2 s2 => ?_)⟩)⟩
  have x12 := x1.tr x2
  have hol2 : o.1.length < 400 → o.1.length + 1 < (pW tx (pB 40 o)).1.length ∨ (pW tx (pB 40 o)).1.length = 400 := fun h => by
    have h1 := (pB_len 40 o).2 h
    by_cases q : (pB 40 o).1.length < 400
    · have := hw2 _ q; omega
    · have h2 := outW_ge tx (pB 40 o).1
      have h3 : (pB 40 o).1.length ≤ (pW tx (pB 40 o)).1.length := h2
      have h4 := o2.1.1.2
      omega
  have full : o.1.length = 400 → pW tx (pB 40 o) = o := fun h => by rw [pB_full h, pW_full h]
  generalize ho2 : pW tx (pB 40 o) = o2' at *
  have eo2 : pW (wrd (s.2 9 n)) (pB 40 o) = o2' := by rw [← hw1, ho2]
  rw [eo2] at eT
  refine ⟨(hw.x x12).1.1, later_n (hw.x x12) o2 s2 (by decide) (fun e3 K3 x3 o3 s3 k3 => ?_)⟩
  have x13 := x12.tr x3
  obtain ⟨c1, c2, c3, c4, c5⟩ := cell x13
  have n1 := gN x13
  rw [c2, n1.2.2, n1.2.1]
  have fin : ∀ {e : SC} {K' : List (Int × Nat × Term)}, WX w c e → WO A P e w o2' → WK A P e w s K' → (o.1.length < 400 → runK (s.2 9) K' o2' = runK (s.2 9) K (outT (s.2 9) (.rem (.index n) (.elem X (.elem Y E))) o) ∧ K'.length ≤ K.length + 7) → F e := fun hx h1 h2 h3 => hF _ _ _ hx h1 h2 (OST_of hol full (fun h => by
    have := hol2 h
    have h4 := h1.1.1.2
    exact ⟨(h3 h).1, by omega, fun h5 => by have := (h3 h).2; omega⟩))
  refine ⟨c1, n1.1, fun so => ?_, fun so => ?_⟩
  · refine ⟨fun q => ⟨(hw.x x13).1.1, later_v (hw.x x13) o3 s3 ⟨hXv, hXb⟩ c3 (fun e4 K4 x4 o4 s4 k4 => ?_)⟩, fun q => ⟨(hw.x x13).1.1, ?_⟩⟩
    · have x14 := x13.tr x4
      refine ⟨(hw.x x14).1.1, later_n (hw.x x14) o4 s4 (by decide) (fun e5 K5 x5 o5 s5 k5 => ?_)⟩
      refine fin (x14.tr x5) o5 s5 (fun h => ?_)
      have hlk := hl h
      have k3 := k3 (by omega)
      subst k3
      have k4 := k4 (by simp; omega)
      subst k4
      have k5 := k5 (by simp; omega)
      subst k5
      rw [eT h, if_neg (by rw [c4.mpr q]; decide)]
      unfold outZ
      rw [if_neg so]
      simp only [runK_c, apK_c (show (0 : Int) ≤ 32 by decide), apK_c (show (0 : Int) ≤ 41 by decide), apK_v hXv]
      exact ⟨trivial, by simp⟩
    · have hYn : Y ≠ .null := fun w => q (c4.mp w)
      refine later_v (hw.x x13) o3 s3 (hYv hYn) ⟨q, c5 hYn⟩ (fun e4 K4 x4 o4 s4 k4 => ?_)
      have x14 := x13.tr x4
      refine ⟨(hw.x x14).1.1, later_n (hw.x x14) o4 s4 (by decide) (fun e5 K5 x5 o5 s5 k5 => ?_)⟩
      have x15 := x14.tr x5
      obtain ⟨d1, -, d3, -⟩ := cell x15
      refine ⟨d1, (hw.x x15).1.1, later_v (hw.x x15) o5 s5 ⟨hXv, hXb⟩ d3 (fun e6 K6 x6 o6 s6 k6 => ?_)⟩
      have x16 := x15.tr x6
      refine ⟨(hw.x x16).1.1, later_n (hw.x x16) o6 s6 (by decide) (fun e7 K7 x7 o7 s7 k7 => ?_)⟩
      refine fin (x16.tr x7) o7 s7 (fun h => ?_)
      have hlk := hl h
      have k3 := k3 (by omega)
      subst k3
      have k4 := k4 (by simp; omega)
      subst k4
      have k5 := k5 (by simp; omega)
      subst k5
      have k6 := k6 (by simp; omega)
      subst k6
      have k7 := k7 (by simp; omega)
      subst k7
      rw [eT h, if_pos (hYv hYn).1]
      unfold outZ
      rw [if_neg so]
      simp only [runK_c, apK_c (show (0 : Int) ≤ 32 by decide), apK_c (show (0 : Int) ≤ 41 by decide), apK_v hXv, apK_v (hYv hYn).1]
      exact ⟨trivial, by simp⟩
  · have h8 := hN.2
    have en : ¬ (0 : Int) ≤ -1 - (n : Int) := by omega
    have en2 : -1 - (-1 - (n : Int)) = n := by omega
    refine ⟨by omega, (hw.x x13).1.1, later_n (hw.x x13) o3 s3 (by omega) (fun e4 K4 x4 o4 s4 k4 => ?_)⟩
    have x14 := x13.tr x4
    refine ⟨(hw.x x14).1.1, later_n (hw.x x14) o4 s4 (by decide) (fun e5 K5 x5 o5 s5 k5 => ?_)⟩
    have x15 := x14.tr x5
    obtain ⟨d1, d2, d3, d4, d5⟩ := cell x15
    refine ⟨d1, fun q => ⟨(hw.x x15).1.1, later_v (hw.x x15) o5 s5 ⟨hXv, hXb⟩ d3 (fun e6 K6 x6 o6 s6 k6 => ?_)⟩, fun q => ⟨(hw.x x15).1.1, ?_⟩⟩
    · have x16 := x15.tr x6
      refine ⟨(hw.x x16).1.1, later_n (hw.x x16) o6 s6 (by decide) (fun e7 K7 x7 o7 s7 k7 => ?_)⟩
      refine fin (x16.tr x7) o7 s7 (fun h => ?_)
      have hlk := hl h
      have k3 := k3 (by omega)
      subst k3
      have k4 := k4 (by simp; omega)
      subst k4
      have k5 := k5 (by simp; omega)
      subst k5
      have k6 := k6 (by simp; omega)
      subst k6
      have k7 := k7 (by simp; omega)
      subst k7
      rw [eT h, if_neg (by rw [d4.mpr q]; decide)]
      unfold outZ
      rw [if_pos so]
      simp only [runK_c, apK_c (show (0 : Int) ≤ 32 by decide), apK_c (show (0 : Int) ≤ 41 by decide), apK_v hXv, apK_n en, en2]
      exact ⟨trivial, by simp⟩
    · have hYn : Y ≠ .null := fun w => q (d4.mp w)
      refine later_v (hw.x x15) o5 s5 (hYv hYn) ⟨q, d5 hYn⟩ (fun e6 K6 x6 o6 s6 k6 => ?_)
      have x16 := x15.tr x6
      refine ⟨(hw.x x16).1.1, later_n (hw.x x16) o6 s6 (by decide) (fun e7 K7 x7 o7 s7 k7 => ?_)⟩
      have x17 := x16.tr x7
      obtain ⟨f1, -, f3, -⟩ := cell x17
      refine ⟨f1, (hw.x x17).1.1, later_v (hw.x x17) o7 s7 ⟨hXv, hXb⟩ f3 (fun e8 K8 x8 o8 s8 k8 => ?_)⟩
      have x18 := x17.tr x8
      refine ⟨(hw.x x18).1.1, later_n (hw.x x18) o8 s8 (by decide) (fun e9 K9 x9 o9 s9 k9 => ?_)⟩
      refine fin (x18.tr x9) o9 s9 (fun h => ?_)
      have hlk := hl h
      have k3 := k3 (by omega)
      subst k3
      have k4 := k4 (by simp; omega)
      subst k4
      have k5 := k5 (by simp; omega)
      subst k5
      have k6 := k6 (by simp; omega)
      subst k6
      have k7 := k7 (by simp; omega)
      subst k7
      have k8 := k8 (by simp; omega)
      subst k8
      have k9 := k9 (by simp; omega)
      subst k9
      rw [eT h, if_pos (hYv hYn).1]
      unfold outZ
      rw [if_pos so]
      simp only [runK_c, apK_c (show (0 : Int) ≤ 32 by decide), apK_c (show (0 : Int) ≤ 41 by decide), apK_v hXv, apK_v (hYv hYn).1, apK_n en, en2]
      exact ⟨trivial, by simp⟩
end
end
section
/-! Writing by the desk: one value's own part, all of it (C252, C247). -/
section
variable {iv : List (Int × Int)} {L : Nat} {h0 : MH} {A A' : Int → Nat} {P Q : Nat → Prop} {c c0 e f : SC} {s s' : SM} {t : Term} {d p a w n : Nat} {x z : Int} {V X Y E : Term} {o : List Int × List Term} {K : List (Int × Nat × Term)} {l : List (Int × Nat)}
theorem one_c {F : SC → Prop} (hP : ∀ a, P a → a ≠ 2) (hw : WRC c w) (hN : NDW A c s) (ho : WO A P c w o) (hk : WK A P c w s K) (hl : o.1.length < 400 → K.length + 10 < 2005) (hV : isV V = true ∧ VB s V) (hv : DV A c P V a []) (hF : ∀ e o' K', WX w c e → WO A P e w o' → WK A P e w s K' → OST (s.2 9) V o K o' K' → F e) : ck iv L h0 (d + 3) 252 [vr w, vr a] c (qv F) := by
  have hol := ho.1.1.2
  obtain ⟨⟨v1, v2⟩, v3, v4⟩ := DV_kind hV.1 hv
  have gN : ∀ {e : SC} {n : Nat}, WX w c e → (n : Int) < s.1 8 → kl e (A n) = 5 ∧ fI e (A n) 0 = n := fun hx hn => ⟨((hN.wx hx hw.1.1).1 _ (by omega) hn).1, ((hN.wx hx hw.1.1).1 _ (by omega) hn).2.1⟩
  have tv : ∀ {e : SC}, WX w c e → DV A e P V a [] := fun hx => DV.wx hx hw.1.1 hv
  have gdn : ∀ z, o.1.length < 400 → gd o z = z := fun z h => if_neg (by omega)
  have ro := hN.2
  refine C252 ⟨v2, ?_⟩
  rw [v3]
  cases V with
  | int z =>
    have h1 : fI c a 1 = z.toInt := hv.2.1
    rw [h1]
    refine ⟨fun _ => ⟨hw.1.1, ?_⟩, fun q => (by cases q), fun q => (by cases q), fun q => (by cases q), fun q => (by cases q), fun q => (by cases q), fun q => (by cases q), fun q => by revert q; show (0 : Int) < 0 ∨ 6 < (0 : Int) → _; omega⟩
    refine num_c hw ho hk ⟨z.le_toInt, by have := z.toInt_lt; omega⟩ (fun e x1 o1 s1 => hF e _ _ x1 o1 s1 (OST_of hol (fun h => pN_full h _) (fun h => ⟨?_, pN_lt _ _ h, fun _ => by have := pN_lt z.toInt o h; omega⟩)))
    show _ = runK _ K (gd o (pN z.toInt o))
    rw [gdn _ h]
  | arg n =>
    have h1 : fI c a 1 = (n : Int) := hv.2.1
    rw [h1]
    have hn : n ≤ 1 := hV.2
    obtain ⟨w9, w10, -⟩ := words_eq
    refine ⟨fun q => (by cases q), fun _ => ⟨fun q => ⟨hw.1.1, ?_⟩, fun q => ⟨hw.1.1, ?_⟩⟩, fun q => (by cases q), fun q => (by cases q), fun q => (by cases q), fun q => (by cases q), fun q => (by cases q), fun q => by revert q; show (1 : Int) < 0 ∨ 6 < (1 : Int) → _; omega⟩
    · have ln : ∀ o : List Int × List Term, o.1.length < 400 → o.1.length < (pW 10 o).1.length := fun o h => by
        have e : pW 10 o = (((strT 10).foldl (fun o c => outB o c.toInt) o.1), o.2) := rfl
        rw [e]
        have hs : 1 ≤ (strT 10).length := (words_in 1 (by decide)).2
        cases hh : strT 10 with
        | nil => rw [hh] at hs; simp at hs
        | cons b m =>
          show o.1.length < (m.foldl (fun o c => outB o c.toInt) (outB o.1 b.toInt)).length
          have := fold_ge (fun c : Int32 => c.toInt) m (outB o.1 b.toInt)
          have := (outB_len o.1 b.toInt).2.1 h
          omega
      refine text_c (by decide) hw ho hk (fun e x1 o1 s1 => hF e _ _ x1 o1 s1 (OST_of hol (fun h => pW_full h _) (fun h => ⟨?_, ln _ h, fun _ => by have := ln o h; omega⟩)))
      show _ = runK _ K (gd o (pW (if n = 1 then 19 else 20) o))
      rw [gdn _ h, if_neg (by omega), pW_eq w10]
    · have ln : ∀ o : List Int × List Term, o.1.length < 400 → o.1.length < (pW 9 o).1.length := fun o h => by
        have e : pW 9 o = (((strT 9).foldl (fun o c => outB o c.toInt) o.1), o.2) := rfl
        rw [e]
        have hs : 1 ≤ (strT 9).length := (words_in 0 (by decide)).2
        cases hh : strT 9 with
        | nil => rw [hh] at hs; simp at hs
        | cons b m =>
          show o.1.length < (m.foldl (fun o c => outB o c.toInt) (outB o.1 b.toInt)).length
          have := fold_ge (fun c : Int32 => c.toInt) m (outB o.1 b.toInt)
          have := (outB_len o.1 b.toInt).2.1 h
          omega
      refine text_c (by decide) hw ho hk (fun e x1 o1 s1 => hF e _ _ x1 o1 s1 (OST_of hol (fun h => pW_full h _) (fun h => ⟨?_, ln _ h, fun _ => by have := ln o h; omega⟩)))
      show _ = runK _ K (gd o (pW (if n = 1 then 19 else 20) o))
      rw [gdn _ h, if_pos (by omega), pW_eq w9]
  | sub b E =>
    cases b with
    | index n =>
      refine ⟨fun q => (by cases q), fun q => (by cases q), fun _ => ⟨hw.1.1, ?_⟩, fun q => (by cases q), fun q => (by cases q), fun q => (by cases q), fun q => (by cases q), fun q => by revert q; show (2 : Int) < 0 ∨ 6 < (2 : Int) → _; omega⟩
      refine add_c hw ho hk (by decide) (fun e x1 o1 s1 => ?_)
      have t1 := tv x1
      have g := gN x1 hV.2.1
      have e2 : fR e a 2 = A n := t1.2.1
      rw [e2, g.2]
      refine ⟨t1.1.1.2, g.1, (hw.x x1).1.1, num_c (hw.x x1) o1 s1 (by have := hV.2.1; omega) (fun e2 x2 o2 s2 => hF e2 _ _ (x1.tr x2) o2 s2 (OST_of hol (fun h => by rw [pB_full h, pN_full h]) (fun h => ⟨?_, ?_, fun _ => ?_⟩)))⟩
      · show _ = runK _ K (gd o (pN n (pB 100 o)))
        rw [gdn _ h]
      · have := (pB_len 100 o).2 h; have := pN_len n (pB 100 o); omega
      · have := (pB_len 100 o).2 h; have := pN_len n (pB 100 o); omega
    | _ => cases hV.1
  | add X Y =>
    obtain ⟨⟨hX1, hX2⟩, hY1, hY2⟩ := hV.2
    have cx : ∀ {e : SC}, WX w c e → (kl e a = 10) ∧ (fR e a 3 ≠ 2 ∧ DV A e P X (fR e a 3) []) ∧ fR e a 4 ≠ 2 ∧ DV A e P Y (fR e a 4) [] := fun hx => by
      obtain ⟨⟨⟨h1, h1'⟩, h2⟩, h3, h4, h5⟩ := tv hx
      exact ⟨h1', ⟨hP _ (DV_kind hX1 h4).1.1, h4⟩, hP _ (DV_kind hY1 h5).1.1, h5⟩
    refine ⟨fun q => (by cases q), fun q => (by cases q), fun q => (by cases q), fun _ => ⟨hw.1.1, ?_⟩, fun q => (by cases q), fun q => (by cases q), fun q => (by cases q), fun q => by revert q; show (3 : Int) < 0 ∨ 6 < (3 : Int) → _; omega⟩
    refine add_c hw ho hk (by decide) (fun e1 x1 o1 s1 => ⟨(hw.x x1).1.1, later_n (hw.x x1) o1 s1 (by decide) (fun e2 K2 x2 o2 s2 k2 => ?_)⟩)
    have x2 := x1.tr x2
    obtain ⟨c1, c2, c3⟩ := cx x2
    refine ⟨c1, (hw.x x2).1.1, later_v (hw.x x2) o2 s2 ⟨hY1, hY2⟩ c3 (fun e3 K3 x3 o3 s3 k3 => ?_)⟩
    have x3 := x2.tr x3
    refine ⟨(hw.x x3).1.1, later_n (hw.x x3) o3 s3 (by decide) (fun e4 K4 x4 o4 s4 k4 => ?_)⟩
    have x4 := x3.tr x4
    obtain ⟨c1, c2, c3⟩ := cx x4
    refine ⟨c1, (hw.x x4).1.1, later_v (hw.x x4) o4 s4 ⟨hX1, hX2⟩ c2 (fun e5 K5 x5 o5 s5 k5 => hF e5 _ _ (x4.tr x5) o5 s5 (OST_of hol (fun h => pB_full h _) (fun h => ?_)))⟩
    have hlk := hl h
    have k2 := k2 (by omega)
    subst k2
    have k3 := k3 (by simp; omega)
    subst k3
    have k4 := k4 (by simp; omega)
    subst k4
    have k5 := k5 (by simp; omega)
    subst k5
    have := (pB_len 91 o).2 h
    refine ⟨?_, by omega, fun _ => by simp; omega⟩
    show _ = runK _ K (gd o (pB 93 (outT (s.2 9) Y (pB 32 (outT (s.2 9) X (pB 91 o))))))
    rw [gdn _ h]
    simp only [runK_c, apK_c (show (0 : Int) ≤ 32 by decide), apK_c (show (0 : Int) ≤ 93 by decide), apK_v hX1, apK_v hY1]
  | div b E =>
    cases b with
    | index n =>
      have g0 : ∀ {e : SC}, WX w c e → kl e a = 10 ∧ kl e (fR e a 2) = 5 ∧ fI e (fR e a 2) 0 = n := fun {e} hx => by
        have t1 := tv hx
        have e2 : fR e a 2 = A n := t1.2.1
        rw [e2]
        exact ⟨t1.1.1.2, (gN hx hV.2.1).1, (gN hx hV.2.1).2⟩
      have hr : -2147483648 ≤ (n : Int) ∧ (n : Int) ≤ 2147483647 := by have := hV.2.1; omega
      refine ⟨fun q => (by cases q), fun q => (by cases q), fun q => (by cases q), fun q => (by cases q), fun _ => ⟨hw.1.1, fun q => ?_, fun q => ?_⟩, fun q => (by cases q), fun q => (by cases q), fun q => by revert q; show (4 : Int) < 0 ∨ 6 < (4 : Int) → _; omega⟩
      · refine add_c hw ho hk (by decide) (fun e1 x1 o1 s1 => ?_)
        obtain ⟨g1, g2, g3⟩ := g0 x1
        rw [g3]
        have h4 : o.1.length = 400 := by have := ho.1.1.1; omega
        refine ⟨g1, g2, (hw.x x1).1.1, num_c (hw.x x1) o1 s1 hr (fun e2 x2 o2 s2 => hF e2 _ _ (x1.tr x2) o2 s2 (OST_of hol (fun h => by rw [pB_full h, pN_full h]) (fun h => by omega)))⟩
      · have h4 : o.1.length < 400 := by have := ho.1.1.1; omega
        refine hole_w hw ho hk h4 ⟨rfl, hV.1, hv⟩ (fun e1 x1 o1 s1 => ?_) q
        obtain ⟨g1, g2, g3⟩ := g0 x1
        rw [g3]
        refine ⟨g1, g2, (hw.x x1).1.1, num_c (hw.x x1) o1 s1 hr (fun e2 x2 o2 s2 => hF e2 _ _ (x1.tr x2) o2 s2 (OST_of hol (fun h => by omega) (fun h => ⟨?_, ?_, fun _ => ?_⟩)))⟩
        · show _ = runK _ K (gd o (pN n (pB 63 (o.1, o.2 ++ [.div (.index n) E]))))
          rw [gdn _ h]
        · have h1 : (pB 63 (o.1, o.2 ++ [.div (.index n) E])).1.length = o.1.length + 1 := (outB_len o.1 63).2.1 h
          have := pN_len n (pB 63 (o.1, o.2 ++ [.div (.index n) E])); omega
        · have h1 : (pB 63 (o.1, o.2 ++ [.div (.index n) E])).1.length = o.1.length + 1 := (outB_len o.1 63).2.1 h
          have := pN_len n (pB 63 (o.1, o.2 ++ [.div (.index n) E])); omega
    | _ => cases hV.1
  | index n =>
    have hn : n < 26 := hV.2
    refine ⟨fun q => (by cases q), fun q => (by cases q), fun q => (by cases q), fun q => (by cases q), fun q => (by cases q), fun _ => ⟨hw.1.1, ?_⟩, fun q => (by cases q), fun q => by revert q; show (5 : Int) < 0 ∨ 6 < (5 : Int) → _; omega⟩
    refine add_c hw ho hk (by decide) (fun e1 x1 o1 s1 => ?_)
    have t1 := tv x1
    have e1' : fI e1 a 1 = (n : Int) := t1.2.1
    rw [e1']
    refine ⟨t1.1.1.2, by omega, (hw.x x1).1.1, add_c (hw.x x1) o1 s1 (by omega) (fun e2 x2 o2 s2 => hF e2 _ _ (x1.tr x2) o2 s2 (OST_of hol (fun h => by rw [pB_full h, pB_full h]) (fun h => ⟨?_, ?_, fun _ => ?_⟩)))⟩
    · show _ = runK _ K (gd o (pB (97 + n) (pB 33 o)))
      rw [gdn _ h]
    · have := (pB_len 33 o).2 h; have := (pB_len (97 + n) (pB 33 o)).1; omega
    · have := (pB_len 33 o).2 h; have := (pB_len (97 + n) (pB 33 o)).1; omega
  | length X =>
    obtain ⟨hX1, hX2⟩ := hV.2
    refine ⟨fun q => (by cases q), fun q => (by cases q), fun q => (by cases q), fun q => (by cases q), fun q => (by cases q), fun q => (by cases q), fun _ => ⟨hw.1.1, ?_⟩, fun q => by revert q; show (6 : Int) < 0 ∨ 6 < (6 : Int) → _; omega⟩
    refine add_c hw ho hk (by decide) (fun e1 x1 o1 s1 => ⟨(hw.x x1).1.1, later_n (hw.x x1) o1 s1 (by decide) (fun e2 K2 x2 o2 s2 k2 => ?_)⟩)
    have x2 := x1.tr x2
    obtain ⟨⟨⟨h1, h1'⟩, h2⟩, h3, h4⟩ := tv x2
    refine ⟨h1', (hw.x x2).1.1, later_v (hw.x x2) o2 s2 ⟨hX1, hX2⟩ ⟨hP _ (DV_kind hX1 h4).1.1, h4⟩ (fun e3 K3 x3 o3 s3 k3 => hF e3 _ _ (x2.tr x3) o3 s3 (OST_of hol (fun h => pB_full h _) (fun h => ?_)))⟩
    have hlk := hl h
    have k2 := k2 (by omega)
    subst k2
    have k3 := k3 (by simp; omega)
    subst k3
    have := (pB_len 123 o).2 h
    refine ⟨?_, by omega, fun _ => by simp; omega⟩
    show _ = runK _ K (gd o (pB 125 (outT (s.2 9) X (pB 123 o))))
    rw [gdn _ h]
    simp only [runK_c, apK_c (show (0 : Int) ≤ 125 by decide), apK_v hX1]
  | rem b z =>
    cases b with
    | index n =>
      cases z with
      | elem X z =>
        cases z with
        | elem Y E =>
          refine ⟨fun q => (by cases q), fun q => (by cases q), fun q => (by cases q), fun q => (by cases q), fun q => (by cases q), fun q => (by cases q), fun q => (by cases q), fun _ => ⟨hw.1.1, act_w hP hw hN ho hk hl hV.2 hv (fun e o' K' h1 h2 h3 h4 => hF e o' K' h1 h2 h3 h4)⟩⟩
        | _ => cases hV.1
      | _ => cases hV.1
    | _ => cases hV.1
  | _ => cases hV.1
end
end
section
/-! Writing by the desk: all of a value (C247). -/
section
variable {iv : List (Int × Int)} {L : Nat} {h0 : MH} {A A' : Int → Nat} {P Q : Nat → Prop} {c c0 e f : SC} {s s' : SM} {t : Term} {d p a w n : Nat} {x z : Int} {V X Y E : Term} {o : List Int × List Term} {K : List (Int × Nat × Term)} {l : List (Int × Nat)} {q : Int × Nat × Term}
/-- the next thing -/
theorem pop_c (hw : WRC c w) (ho : WO A P c w o) (hk : WK A P c w s (q :: K)) : fI c w 6 = K.length + 1 ∧ (aR c (w + 3) K.length = q.2.1 ∧ ((q.2.2 = .null ∧ q.2.1 = 2 ∧ aI c (w + 4) K.length = q.1 ∧ -2147483647 ≤ q.1 ∧ q.1 ≤ 127) ∨ (isV q.2.2 = true ∧ VB s q.2.2 ∧ q.2.1 ≠ 2 ∧ DV A c P q.2.2 q.2.1 []))) ∧ WX w c (uI c w 6 (fI c w 6 - 1)) ∧ WO A P (uI c w 6 (fI c w 6 - 1)) w o ∧ WK A P (uI c w 6 (fI c w 6 - 1)) w s K ∧ fI (uI c w 6 (fI c w 6 - 1)) w 6 = K.length := by
  obtain ⟨⟨h1, h2⟩, h3⟩ := hk
  have hx : WX w c (uI c w 6 (fI c w 6 - 1)) := WX.rf.uI (Or.inr (Or.inr rfl))
  have h1 : fI c w 6 = K.length + 1 := by rw [h1]; simp
  have e6 : fI (uI c w 6 (fI c w 6 - 1)) w 6 = K.length := by rw [fI_uI, if_pos ⟨rfl, rfl⟩]; omega
  have hq := h3 K.length q (by rw [List.reverse_cons, List.getElem?_append_right (by simp)]; simp)
  obtain ⟨⟨⟨o1, o2⟩, o3⟩, ⟨o4, o5⟩, o6⟩ := ho
  refine ⟨h1, hq, hx, ⟨⟨⟨?_, o2⟩, o3⟩, ⟨?_, o5⟩, fun k V hV => ⟨DV.wx hx hw.1.1 (o6 k V hV).1, (o6 k V hV).2⟩⟩, ⟨⟨e6, by simp at h2; omega⟩, fun k y hy => ?_⟩, e6⟩
  · rw [fI_uI, if_neg (by omega)]; exact o1
  · rw [fI_uI, if_neg (by omega)]; exact o4
  · obtain ⟨q1, q2⟩ := h3 k y (by
      have := (List.getElem?_eq_some_iff.mp hy).1
      rw [List.reverse_cons, List.getElem?_append_left this]; exact hy)
    exact ⟨q1, q2.imp id (fun z => ⟨z.1, z.2.1, z.2.2.1, DV.wx hx hw.1.1 z.2.2.2⟩)⟩
theorem loop_w {T : List Int × List Term} {F : SC → Prop} (hP : ∀ a, P a → a ≠ 2) (hF : ∀ e, WX w c0 e → WO A P e w T → F e) : ∀ (m : Nat) (i : Int) (c : SC) (o : List Int × List Term) (K : List (Int × Nat × Term)), 0 ≤ i → i + m = 400 → WX w c0 c → WRC c w → NDW A c s → WO A P c w o → WK A P c w s K → runK (s.2 9) K o = T → (o.1.length < 400 → i ≤ o.1.length ∧ K.length ≤ 1 + 3 * o.1.length) → wk iv L h0 (d + 4) 247 23 [lr w, ln, li i] [] c (qv F) := by
  intro m
  induction m with
  | zero =>
    intro i c o K i0 hi hx hw hN ho hk hr hl
    have h4 := ho.1.1.2
    have : o.1.length = 400 := by
      by_cases q : o.1.length < 400
      · have := (hl q).1; omega
      · omega
    rw [runK_full K o this] at hr
    rw [← hr] at hF
    exact C247_23 ⟨fun _ => hF c hx ho, fun q => by omega⟩
  | succ m ih =>
    intro i c o K i0 hi hx hw hN ho hk hr hl
    refine C247_23 ⟨fun q => by omega, fun _ => ⟨hw.1.1, fun q => ?_, fun q => ?_⟩⟩
    · cases K with
      | nil =>
        have hr : o = T := hr
        rw [← hr] at hF
        exact hF c hx ho
      | cons q K =>
        have := (pop_c hw ho hk).1
        omega
    · cases K with
      | nil =>
        have := hk.1.1
        simp at this
        omega
      | cons q K =>
        obtain ⟨p1, ⟨p2, p3⟩, p4, p5, p6, p7⟩ := pop_c hw ho hk
        have hkl := hk.1.2
        simp only [List.length_cons] at hkl
        have hol := ho.1.1.2
        have hw2 := hw.x p4
        have hN2 := hN.wx p4 hw.1.1
        have hx2 := hx.tr p4
        rw [p7]
        obtain ⟨⟨k1, k2, k3, k4, k5⟩, ⟨k6, k7, k8, k9⟩, k10, k11, k12, k13⟩ := id hw
        rw [k4, k5, p2]
        -- one round more
        have nxt : ∀ {e : SC} {o' : List Int × List Term} {K' : List (Int × Nat × Term)}, WX w (uI c w 6 (fI c w 6 - 1)) e → WO A P e w o' → WK A P e w s K' → runK (s.2 9) K' o' = T → (o.1.length < 400 → o.1.length < o'.1.length ∧ (o'.1.length < 400 → K'.length + 3 * o.1.length ≤ K.length + 1 + 3 * o'.1.length)) → o.1.length ≤ o'.1.length → (-2147483648 ≤ i + 1 ∧ i + 1 ≤ 2147483647) ∧ wk iv L h0 (d + 4) 247 23 [lr w, ln, li (i + 1)] [] e (qv F) := fun {e o' K'} e1 e2 e3 e4 e5 e6 => ⟨by omega, ih (i + 1) e o' K' (by omega) (by omega) (hx2.tr e1) (hw2.x e1) (hN2.wx e1 hw2.1.1) e2 e3 e4 (fun h => by
          have h1 := e5 (by omega)
          have h2 := hl (by omega)
          simp only [List.length_cons] at h2
          have h3 := h1.2 h
          omega)⟩
        obtain ⟨qk, qx, qV⟩ := q
        refine ⟨by omega, k8, by omega, fun z => ⟨k9, by omega, ?_⟩, fun z => ?_⟩
        · rcases p3 with ⟨r1, r2, r3, r4, r5⟩ | ⟨r1, r2, r3, r4⟩
          · have r1 : qV = .null := r1
            subst r1
            have r3 : aI c (w + 4) K.length = qk := r3
            have r4 : -2147483647 ≤ qk := r4
            have r5 : qk ≤ 127 := r5
            rw [r3]
            refine ⟨fun h => ?_, fun h => ⟨by omega, ?_⟩⟩
            · refine add_c hw2 p5 p6 (by omega) (fun e e1 e2 e3 => nxt e1 e2 e3 ?_ (fun h => ?_) (pB_len qk o).1)
              · rw [← hr, runK_c, apK_c h]
              · have := (pB_len qk o).2 h; omega
            · have ng : ¬ 0 ≤ qk := by omega
              refine num_c (d := d + 2) hw2 p5 p6 (by omega) (fun e e1 e2 e3 => nxt e1 e2 e3 ?_ (fun h => ?_) (pN_len _ o))
              · rw [← hr, runK_c, apK_n ng]
              · have := pN_lt (-1 - qk) o h; omega
          · exact absurd z r3
        · rcases p3 with ⟨r1, r2, r3, r4, r5⟩ | ⟨r1, r2, r3, r4⟩
          · exact absurd r2 z
          · refine one_c (d := d) hP hw2 hN2 p5 p6 (fun h => by have := (hl h).2; simp only [List.length_cons] at this; omega) ⟨r1, r2⟩ (DV.wx p4 hw.1.1 r4) (fun e o' K' e1 e2 e3 e4 => nxt e1 e2 e3 ?_ (fun h => e4.2.1 h) ?_)
            · rw [e4.1, ← hr, runK_c, apK_v r1]
            · exact e4.2.2
theorem written_c {F : SC → Prop} (hP : ∀ a, P a → a ≠ 2) (hw : WRC c w) (hN : NDW A c s) (hV : isV V = true ∧ VB s V) (hv : DV A c P V a []) (hF : ∀ e, WX w c e → WO A P e w (wrt s V) → F e) : ck iv L h0 (d + 5) 247 [vr w, vr a] c (qv F) := by
  have hx : WX w c (uI (uI (uI c w 3 0) w 1 0) w 6 0) := ((WX.rf.uI (Or.inr (Or.inl rfl))).uI (Or.inl rfl)).uI (Or.inr (Or.inr rfl))
  have e3 : fI (uI (uI (uI c w 3 0) w 1 0) w 6 0) w 3 = 0 := by simp [fI_uI]
  have e1 : fI (uI (uI (uI c w 3 0) w 1 0) w 6 0) w 1 = 0 := by simp [fI_uI]
  have e6 : fI (uI (uI (uI c w 3 0) w 1 0) w 6 0) w 6 = 0 := by simp [fI_uI]
  have hw1 := hw.x hx
  refine C247 ⟨hw.1.1, ?_⟩
  generalize uI (uI (uI c w 3 0) w 1 0) w 6 0 = u at *
  have ho : WO A P u w ([], []) := ⟨⟨⟨e3, by decide⟩, fun k x h => by simp at h⟩, ⟨e1, by decide⟩, fun k x h => by simp at h⟩
  have hk : WK A P u w s [] := ⟨⟨e6, by decide⟩, fun k q h => by simp at h⟩
  have hv1 := DV.wx hx hw.1.1 hv
  refine later_v hw1 ho hk hV ⟨hP _ (DV_kind hV.1 hv1).1.1, hv1⟩ (fun e K' h1 h2 h3 h4 => ?_)
  have h4 := h4 (by decide)
  subst h4
  refine loop_w (T := wrt s V) (c0 := c) hP hF 400 0 e ([], []) _ (Int.le_refl _) rfl (hx.tr h1) (hw1.x h1) ((hN.wx hx hw.1.1).wx h1 hw1.1.1) h2 h3 ?_ (fun _ => ⟨by decide, by simp⟩)
  show apK (s.2 9) (0, a, V) ([], []) = _
  exact apK_v hV.1 0 a ([], [])
end
end
