/-! Going on by the desk: acts that were left, every value (C243, C241). -/
section
variable {iv : List (Int × Int)} {L : Nat} {h0 : MH} {A A' : Int → Nat} {P : Nat → Prop} {c c0 e f : SC} {σ s s' w : SM} {t : Term} {d p a g x y n : Nat} {b most st kv ks kv' ks' k0 k1 k q : Int} {ys : List (Nat × Nat)} {rs : List Nat} {R : RS} {X Y E V : Term} {l : List (Int × Nat)}
theorem rest_c {z : Int} {D : Nat} {F : Nat → SC → Prop} (hD : DWX A c0 σ t p) (hFN : FN σ t) (hW : WCD iv L h0 A c0 σ t p most n) (hO : OCD iv L h0 A c0 σ t p most n) (hS : DWS c0 p most st kv ks e) (hk : 1 ≤ kv ∧ 1 ≤ ks) (hz : z = 60 - n) (hDt : (D : Int) ∈ fl t) (hx : (isV X = true ∧ VN σ t X) ∧ DV A e (YNG e p) X x []) (ha : LIV e p a ∧ kl e a = 10) (ha2 : fR e a 2 = A D)
    (hc : ((σ.2 9 D = 4 ∨ σ.2 9 D = 5 ∨ σ.2 9 D = 6 ∨ σ.2 9 D = 7 ∨ σ.2 9 D = 9) ∧ (isV Y = true ∧ VN σ t Y) ∧ DV A e (YNG e p) Y y [] ∧ E = .null ∧ fR e a 5 = 2) ∨ (σ.2 9 D = 11 ∧ y = 2 ∧ isE 26 E ∧ cov σ D E ∧ VO σ t E ∧ ∃ l, CHN e (LIV e p) (fR e a 5) l ∧ DV A e (LIV e p) E 2 l) ∨ ((σ.2 9 D = 13 ∨ σ.2 9 D = 14) ∧ y = 2 ∧ E = .null ∧ fR e a 5 = 2))
    (hF : ∀ a' e', DWP A p 1 0 2 e st (bnR (optE (fun E => envE (EV σ most n).2 E st) st E) (fun st F => actE (σ.2 9) (σ.2 10) (σ.2 14) (EV σ most n).1 D X Y F st)) a' e' → F a' e') :
    ck iv L h0 (3 * n + 11) 244 [vr 176, vr (fR e a 5), vi z] e (qa fun r s => (kl s 176 = 11) ∧ ((fI s 176 4 ≠ (-1) → F 2 s) ∧ (fI s 176 4 = (-1) → (kl s a = 10) ∧ ck iv L h0 (3 * n + 11) 239 [vr 176, vr (fR s a 2), vr x, vr y, vr r, vi z] s (qa fun r12 s11 => F r12 s11)))) := by
  have w1 := (hD.wk hS.1).1
  have hst := hS.2.2.2.1
  have nos : E = .null → fR e a 5 = 2 → (σ.2 9 D = 4 ∨ σ.2 9 D = 5 ∨ σ.2 9 D = 6 ∨ σ.2 9 D = 7 ∨ σ.2 9 D = 9 → (isV Y = true ∧ VN σ t Y) ∧ DV A e (YNG e p) Y y []) → (σ.2 9 D = 13 ∨ σ.2 9 D = 14 → y = 2) → (σ.2 9 D = 4 ∨ σ.2 9 D = 5 ∨ σ.2 9 D = 6 ∨ σ.2 9 D = 7 ∨ σ.2 9 D = 9 ∨ σ.2 9 D = 13 ∨ σ.2 9 D = 14) → ck iv L h0 (3 * n + 11) 244 [vr 176, vr (fR e a 5), vi z] e (qa fun r s => (kl s 176 = 11) ∧ ((fI s 176 4 ≠ (-1) → F 2 s) ∧ (fI s 176 4 = (-1) → (kl s a = 10) ∧ ck iv L h0 (3 * n + 11) 239 [vr 176, vr (fR s a 2), vr x, vr y, vr r, vi z] s (qa fun r12 s11 => F r12 s11)))) := fun hE h5 hY hy hso => by
    rw [h5]
    subst hE
    rw [optE_n, bnR_rok] at hF
    refine nosights_c hD hS.1 ⟨w1, fun w => absurd hS.2.2.1.2.2.2.1 w, fun _ => ⟨ha.2, ?_⟩⟩
    rw [ha2]
    exact dact_c (E := .null) (l := []) hD hW hS hk hz hDt (by omega) hx (fun q => hY (by omega)) (fun q => hy (by omega)) (fun q => by omega) hF
  rcases hc with ⟨so, hY, hy, hE, h5⟩ | ⟨so, hy, hE, hcv, hVE, l, hl1, hl2⟩ | ⟨so, hy, hE, h5⟩
  · exact nos hE h5 (fun _ => ⟨hY, hy⟩) (fun q => by omega) (by omega)
  · have Enn : E ≠ .null := fun q => by rw [q] at hE; exact hE.elim
    obtain ⟨y1, y2, y3⟩ := env_ok (EV_okO (most := most) hD hFN n) 26 E st hE hVE hst.2.1
    rw [optE_v Enn] at hF
    refine sights_c hD hFN hO hS ⟨by omega, by omega⟩ hz hE hVE ⟨hl1, hl2⟩ (fun r e2 h => ?_)
    have h4 := h.1.2.2.1.2.1
    obtain ⟨u1, u2, u3, u4, -⟩ := h.1.2.1.1.1.v ha.1 ha.2
    have hx2 := hS.1.tr h.1.1.1
    generalize envE (EV σ most n).2 E st = R at *
    by_cases g0 : R.2.1 = 0
    · obtain ⟨z1, z2, z3, z4⟩ := y3 g0
      rw [bnR_0 g0] at hF
      obtain ⟨l', hc, hd⟩ := h.2 g0
      have S2 : DWS c0 p most R.1 (kv - 0) (ks - 0) e2 := hS.nx (hD.fx hS.1) (R := (R.1, R.2.1, R.2.2.1, .null)) h.1 y1 ⟨g0, z1⟩
      have h4 : fI e2 176 4 = -1 := by rw [h4]; exact if_pos g0
      refine ⟨(hD.wk hx2).1, fun w => absurd h4 w, fun _ => ⟨u2, ?_⟩⟩
      rw [u4, ha2]
      exact dact_c (l := l') hD hW S2 ⟨by omega, by omega⟩ hz hDt (by omega) ⟨hx.1, DV_up h.1.2.1.1.2 _ X x [] (Nat.lt_succ_self _) hx.2⟩ (fun q => by omega) (fun q => hy) (fun _ => ⟨⟨z2, z3, fun z z0 z1 hz q => hcv z z0 z1 hz (z4 z q)⟩, hc, hd⟩) (fun a' e' h' => hF a' e' ((h.1.tr g0 h').up (by decide) (by decide) (by decide)))
    · rw [bnR_n g0] at hF
      have hs := h.stop g0
      have h4 : fI e2 176 4 = R.2.1 := by rw [h4]; exact if_neg g0
      refine ⟨(hD.wk hx2).1, fun _ => ?_, fun w => by have := y2.resolve_left g0; omega⟩
      have er : r = 2 := hs.2.2.2.2.2 g0
      subst er
      exact hF 2 e2 (hs.up (by decide) (by decide) (by decide))
  · exact nos hE h5 (fun q => by omega) (fun _ => hy) (by omega)
/-- a pair gone on with -/
theorem don3_c {z : Int} {F : Nat → SC → Prop} (hD : DWX A c0 σ t p) (hFN : FN σ t) (hO : OCD iv L h0 A c0 σ t p most n) (hS : DWS c0 p most st kv ks c) (hk : 1 ≤ kv ∧ 1 ≤ ks) (hz : z = 60 - n) (hV : VO σ t (.add X Y)) (hv : DV A c (LIV c p) (.add X Y) a []) (hF : ∀ a e, DWP A p 1 0 1 c st (oplE (σ.2 9) (σ.2 10) (σ.2 14) (σ.2 42) (EV σ most n).1 (EV σ most n).2 (.add X Y) st) a e → F a e) : ck iv L h0 (3 * n + 12) 243 [vr 176, vr a, vi z] c (qa F) := by
  have hcx := hS.1
  obtain ⟨w1, w2, w3⟩ := hD.wk hcx
  have hst := hS.2.2.2.1
  obtain ⟨⟨⟨h1, h1'⟩, h2⟩, h3, h4, h5⟩ := hv
  obtain ⟨⟨v1, v2⟩, v3, v4⟩ := hV
  obtain ⟨r1, r2, r3⟩ := EV_okO (most := most) hD hFN n X st v1 v2 hst.2.1
  have hF : ∀ a e, DWP A p 1 0 1 c st (bnR ((EV σ most n).2 X st) (fun st x => bnR ((EV σ most n).2 Y st) (fun st y => rok st (.add x y)))) a e → F a e := hF
  subst hz
  refine C243 ⟨h1', w1, ck_mono (hO X st c _ v1 v2 h4 (hS.up (by omega) (by omega))) (by omega) (fun x e h => ?_)⟩
  have hne := h.ne (fun q => (r3 q).2.1)
  obtain ⟨u1, u2, u3, u4, u5, u6, u7⟩ := h.2.1.1.1.v h1 h1'
  generalize (EV σ most n).2 X st = R at *
  by_cases g0 : R.2.1 = 0
  · obtain ⟨x1, x2, x3⟩ := r3 g0
    rw [bnR_0 g0] at hF
    have S2 := hS.nx (hD.fx hcx) h r1 ⟨g0, x1⟩
    have hy2 := DV_up h.2.1.1.1 _ Y _ [] (Nat.lt_succ_self _) h5
    have hxa := hne.mp g0
    refine ⟨fun w => absurd w hxa, fun _ => ⟨u2, fun _ => ⟨(hD.wk S2.1).1, ?_⟩, fun w => ?_⟩⟩
    · rw [u6]
      obtain ⟨s1, s2, s3⟩ := EV_okO (most := most) hD hFN n Y R.1 v3 v4 r1.2
      refine ck_mono (hO Y R.1 e _ v3 v4 hy2 (S2.up (by omega) (by omega))) (by omega) (fun y e2 h' => ⟨fun w => absurd w hxa, fun _ => ?_⟩)
      have hne' := h'.ne (fun q => (s3 q).2.1)
      obtain ⟨o1, o2, o3, o4, o5, o6, o7⟩ := h'.2.1.1.1.v u1 u2
      generalize (EV σ most n).2 Y R.1 = R1 at *
      refine ⟨o2, fun w => ?_, fun _ => ?_⟩
      · rw [o6, u6] at w
        exact absurd w (DV_neL v3 h5)
      · by_cases g1 : R1.2.1 = 0
        · obtain ⟨z1, z2, z3⟩ := s3 g1
          rw [bnR_0 g1] at hF
          have S3 := S2.nx (hD.fx S2.1) h' s1 ⟨g1, z1⟩
          refine ⟨fun _ => ⟨fun w => absurd (o3.trans (u3.trans h2)) w, fun _ => ⟨fun _ => ⟨(hD.wk S3.1).1, ?_⟩, fun w => absurd w (hne'.mp g1)⟩⟩, fun w => absurd w (hne'.mp g1)⟩
          rw [S3.2.2.1.1]
          exact ⟨(hD.wk S3.1).2.1, dadd_c hD S3 (by omega) x2 z2 (DV_up h'.2.1.1.2 _ _ x [] (Nat.lt_succ_self _) (h.2.2.2.2.1 g0)) (h'.2.2.2.2.1 g1) (fun a' e' h'' => hF a' e' (((h.tr g0 h').tr g1 h'').up (by decide) (by decide) (by decide)))⟩
        · rw [bnR_n g1] at hF
          have ea : y = 2 := h'.2.2.2.2.2 g1
          subst ea
          exact ⟨fun w => absurd rfl w, fun _ => hF 2 e2 ((h.tr g0 h').up (by decide) (by decide) (by decide))⟩
    · rw [u6] at w
      exact absurd w (DV_neL v3 h5)
  · rw [bnR_n g0] at hF
    have ea : x = 2 := h.2.2.2.2.2 g0
    subst ea
    exact ⟨fun _ => ⟨fun _ => hF 2 e (h.up (by decide) (by decide) (by decide)), fun w => absurd rfl w⟩, fun w => absurd rfl w⟩
/-- an act gone on with -/
theorem don7_c {z : Int} {D : Nat} {F : Nat → SC → Prop} (hD : DWX A c0 σ t p) (hFN : FN σ t) (hW : WCD iv L h0 A c0 σ t p most n) (hO : OCD iv L h0 A c0 σ t p most n) (hS : DWS c0 p most st kv ks c) (hk : 1 ≤ kv ∧ 1 ≤ ks) (hz : z = 60 - n) (hV : VO σ t (.rem (.index D) (.elem X (.elem Y E)))) (hv : DV A c (LIV c p) (.rem (.index D) (.elem X (.elem Y E))) a []) (hF : ∀ a e, DWP A p 1 0 1 c st (oplE (σ.2 9) (σ.2 10) (σ.2 14) (σ.2 42) (EV σ most n).1 (EV σ most n).2 (.rem (.index D) (.elem X (.elem Y E))) st) a e → F a e) : ck iv L h0 (3 * n + 12) 243 [vr 176, vr a, vi z] c (qa F) := by
  have hcx := hS.1
  obtain ⟨w1, w2, w3⟩ := hD.wk hcx
  have hst := hS.2.2.2.1
  obtain ⟨⟨⟨h1, h1'⟩, h2⟩, h2', h3, h4, h5, h5', h6⟩ := hv
  obtain ⟨⟨v0, v1, v2⟩, hcase⟩ := hV
  obtain ⟨r1, r2, r3⟩ := EV_okO (most := most) hD hFN n X st v1 v2 hst.2.1
  have hF : ∀ a e, DWP A p 1 0 1 c st (bnR ((EV σ most n).2 X st) (fun st x => bnR (optE (fun B => (EV σ most n).2 B st) st Y) (fun st y => bnR (optE (fun E => envE (EV σ most n).2 E st) st E) (fun st F => actE (σ.2 9) (σ.2 10) (σ.2 14) (EV σ most n).1 D x y F st)))) a e → F a e := hF
  have hO' := hO
  subst hz
  refine C243 ⟨h1', w1, ck_mono (hO X st c _ v1 v2 h4 (hS.up (by omega) (by omega))) (by omega) (fun x e h => ?_)⟩
  have hne := h.ne (fun q => (r3 q).2.1)
  obtain ⟨u1, u2, u3, u4, u5, u6, u7⟩ := h.2.1.1.1.v h1 h1'
  generalize (EV σ most n).2 X st = R at *
  have kn : ∀ {e : SC}, fI e a 0 = fI c a 0 → fI e a 0 ≠ 3 := fun q => by rw [q, h2]; decide
  by_cases g0 : R.2.1 = 0
  · obtain ⟨x1, x2, x3⟩ := r3 g0
    rw [bnR_0 g0] at hF
    have S2 := hS.nx (hD.fx hcx) h r1 ⟨g0, x1⟩
    have hxa := hne.mp g0
    have vx := h.2.2.2.2.1 g0
    have k7 := kn u3
    have sc : E ≠ .null → ∃ l, CHN e (LIV e p) (fR e a 5) l ∧ DV A e (LIV e p) E 2 l := fun q => by
      obtain ⟨l, q1, q2⟩ := (h6.resolve_left (fun w => q w.1)).2
      exact ⟨l, by rw [u7]; exact CHN.up h.2.1.1.1 l _ q1, DV_up h.2.1.1.1 _ E 2 l (Nat.lt_succ_self _) q2⟩
    refine ⟨fun w => absurd w hxa, fun _ => ⟨u2, fun w4 => ⟨(hD.wk S2.1).1, ?_⟩, fun w4 => ⟨fun w => absurd w hxa, fun _ => ⟨fun _ => ⟨fun _ => ⟨(hD.wk S2.1).1, ?_⟩, fun w => absurd w k7⟩, fun w => absurd w4 w⟩⟩⟩⟩
    · rw [u6] at w4 ⊢
      have hYn : Y ≠ .null := fun w => w4 (h5.mp w)
      obtain ⟨so, B1, B2, hEn⟩ : (σ.2 9 D = 4 ∨ σ.2 9 D = 5 ∨ σ.2 9 D = 6 ∨ σ.2 9 D = 7 ∨ σ.2 9 D = 9) ∧ isV Y = true ∧ VO σ t Y ∧ E = .null := by
        rcases hcase with q | ⟨-, q, -⟩ | ⟨-, q, -⟩
        · exact q
        · exact absurd q hYn
        · exact absurd q hYn
      have g5 : fR c a 5 = 2 := (h6.resolve_right (fun w => w.1 hEn)).2
      have hy2 := DV_up h.2.1.1.1 _ Y _ [] (Nat.lt_succ_self _) (h5' hYn)
      obtain ⟨s1, s2, s3⟩ := EV_okO (most := most) hD hFN n Y R.1 B1 B2 r1.2
      refine ck_mono (hO Y R.1 e _ B1 B2 hy2 (S2.up (by omega) (by omega))) (by omega) (fun y e2 h' => ⟨fun w => absurd w hxa, fun _ => ?_⟩)
      have hne' := h'.ne (fun q => (s3 q).2.1)
      obtain ⟨o1, o2, o3, o4, o5, o6, o7⟩ := h'.2.1.1.1.v u1 u2
      rw [optE_v hYn] at hF
      generalize (EV σ most n).2 Y R.1 = R1 at *
      refine ⟨o2, fun w => ?_, fun _ => ?_⟩
      · rw [o6, u6] at w
        exact absurd w w4
      · by_cases g1 : R1.2.1 = 0
        · obtain ⟨z1, z2, z3⟩ := s3 g1
          rw [bnR_0 g1] at hF
          have S3 := S2.nx (hD.fx S2.1) h' s1 ⟨g1, z1⟩
          refine ⟨fun _ => ⟨fun _ => ⟨(hD.wk S3.1).1, ?_⟩, fun w => absurd w (kn (o3.trans u3))⟩, fun w => absurd w (hne'.mp g1)⟩
          exact rest_c hD hFN hW hO' S3 ⟨by omega, by omega⟩ rfl v0 ⟨⟨x2, x3⟩, DV_up h'.2.1.1.2 _ _ x [] (Nat.lt_succ_self _) vx⟩ ⟨o1, o2⟩ (o4.trans (u4.trans h2')) (Or.inl ⟨so, ⟨z2, z3⟩, h'.2.2.2.2.1 g1, hEn, o7.trans (u7.trans g5)⟩) (fun a' e' h'' => hF a' e' (((h.tr g0 h').tr g1 h'').up (by decide) (by decide) (by decide)))
        · rw [bnR_n g1] at hF
          have ea : y = 2 := h'.2.2.2.2.2 g1
          subst ea
          exact ⟨fun w => absurd rfl w, fun _ => hF 2 e2 ((h.tr g0 h').up (by decide) (by decide) (by decide))⟩
    · rw [u6] at w4
      have hYn : Y = .null := h5.mpr w4
      subst hYn
      rw [optE_n, bnR_rok] at hF
      refine rest_c (Y := .null) hD hFN hW hO' S2 ⟨by omega, by omega⟩ rfl v0 ⟨⟨x2, x3⟩, vx⟩ ⟨u1, u2⟩ (u4.trans h2') ?_ (fun a' e' h'' => hF a' e' ((h.tr g0 h'').up (by decide) (by decide) (by decide)))
      rcases hcase with ⟨-, q, -⟩ | ⟨so, -, E1, E2, E3⟩ | ⟨so, -, hEn⟩
      · exact absurd rfl (isV_nn q)
      · exact Or.inr (Or.inl ⟨so, rfl, E1, E2, E3, sc (fun w => by rw [w] at E1; exact E1.elim)⟩)
      · exact Or.inr (Or.inr ⟨so, rfl, hEn, u7.trans (h6.resolve_right (fun w => w.1 hEn)).2⟩)
  · rw [bnR_n g0] at hF
    have ea : x = 2 := h.2.2.2.2.2 g0
    subst ea
    exact ⟨fun _ => ⟨fun _ => hF 2 e (h.up (by decide) (by decide) (by decide)), fun w => absurd rfl w⟩, fun w => absurd rfl w⟩
end
