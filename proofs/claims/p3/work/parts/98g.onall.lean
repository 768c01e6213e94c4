/-! The reference goes on with every value as evw says. -/
section
variable {iv : List (Int × Int)} {L : Nat} {h0 : MH} {σ s : SM} {t : Term} {d n : Nat} {most B C st k lo hi elo ehi : Int}
theorem rem_a {v x a' : Int} {D : Nat} {A' X : Term} {F : Int → SM → Prop} (hX : WCX σ t most B C) (hFN : FN σ t) (hH : OLDH σ lo hi elo ehi) (hW : WCO iv L h0 σ t most B C n) (hO : OCA iv L h0 σ t most lo hi elo ehi n) (hS : WS σ most B C n st 2 s) (hD : (D : Int) ∈ fl t) (so : σ.2 9 D = 4 ∨ σ.2 9 D = 5 ∨ σ.2 9 D = 6 ∨ σ.2 9 D = 7 ∨ σ.2 9 D = 9) (hx : (isV X = true ∧ VN σ t X) ∧ VR s B (s.1 52) C (s.1 54) X x) (B1 : isV A' = true) (B2 : VO σ t A') (b2 : VR s lo hi elo ehi A' a') (kv : lo ≤ v ∧ v < hi) (g47 : s.2 47 v = D) (g50 : s.2 50 v = -9) (hF : ∀ r w, WP B C 1 1 s st (bnR ((EV σ most n).2 A' st) (fun st y => actE (σ.2 9) (σ.2 10) (σ.2 14) (EV σ most n).1 D X y .null st)) r w → F r w) :
    cm iv L h0 (3 * n + 9) 132 [vr 307, vi a'] s (qi fun r39 s38 => ((0 < s38.1 59 → ((s38.1 59 ≤ 0 → cm iv L h0 (3 * n + 9) 128 [vr 307, vi (s38.2 47 v), vi x, vi r39, vi (-9)] s38 (qi fun r41 s40 => F r41 s40)) ∧ (0 < s38.1 59 → F (-9) s38))) ∧ (s38.1 59 ≤ 0 → ((s38.2 50 v ≠ (-9) → cm iv L h0 (3 * n + 9) 131 [vr 307, vi (s38.2 50 v)] s38 (qi fun r43 s42 => ((s42.1 59 ≤ 0 → cm iv L h0 (3 * n + 9) 128 [vr 307, vi (s42.2 47 v), vi x, vi r39, vi r43] s42 (qi fun r45 s44 => F r45 s44)) ∧ (0 < s42.1 59 → F (-9) s42)))) ∧ (s38.2 50 v = (-9) → ((s38.1 59 ≤ 0 → cm iv L h0 (3 * n + 9) 128 [vr 307, vi (s38.2 47 v), vi x, vi r39, vi (-9)] s38 (qi fun r47 s46 => F r47 s46)) ∧ (0 < s38.1 59 → F (-9) s38))))))) := by
  obtain ⟨y1, y2, y3⟩ := (EV_ok hX hFN n).2 A' st B1 B2 hS.2.2.1.2
  refine onA hX hO A' a' st s _ B1 B2 b2 (hS.up (by decide)) (fun r' u hu hu9 => ?_)
  generalize (EV σ most n).2 A' st = R at *
  have u59 : u.1 59 = R.2.1 := hu.2.2.2.1.2.2.1
  have kp2 := old_k hH hX hS hu.1 (hu.top hX hS y1 (by decide) (by decide))
  have h47 := (kp2.1 47 v (by decide) kv.1 kv.2).trans g47
  have h50 := (kp2.1 50 v (by decide) kv.1 kv.2).trans g50
  rw [u59, h50, h47]
  by_cases g1 : R.2.1 = 0
  · obtain ⟨z1, z2, z3⟩ := y3 g1
    rw [bnR_0 g1] at hF
    have S3 := hS.nx (k' := 1) hu y1 ⟨g1, z1⟩ (by decide)
    have hkp' := hu.1.keep (lo := B) (elo := C) (Or.inl (Int.le_refl _)) (Or.inl (Int.le_refl _))
    have act := actM_ok (F := F) (Y := R.2.2.2) (y := r') (E := .null) (e := -9) hX hW S3 hD (by omega) ⟨hx.1, VR_k hx.2 hkp' hu.2.1.1 hu.2.2.1.1⟩ (fun _ => ⟨⟨z2, z3⟩, hu.2.2.2.2 g1⟩) (fun q => by omega) (fun r2 u2 hu2 => hF r2 u2 ((hu.tr hu2).up (by decide) (by decide)))
    exact ⟨fun c => by omega, fun _ => ⟨fun c => absurd rfl c, fun _ => ⟨fun _ => act, fun c => by omega⟩⟩⟩
  · rw [bnR_n g1] at hF
    have gp : 0 < R.2.1 := by have := y2.resolve_left g1; omega
    exact ⟨fun _ => ⟨fun c => by omega, fun _ => hF _ u ((hu.up (by decide) (by decide)).st g1)⟩, fun c => by omega⟩
theorem rem_b {v x e : Int} {D : Nat} {E X : Term} {F : Int → SM → Prop} (hX : WCX σ t most B C) (hFN : FN σ t) (hH : OLDH σ lo hi elo ehi) (hW : WCO iv L h0 σ t most B C n) (hO : OCA iv L h0 σ t most lo hi elo ehi n) (hS : WS σ most B C n st 2 s) (hD : (D : Int) ∈ fl t) (so : σ.2 9 D = 11) (hx : (isV X = true ∧ VN σ t X) ∧ VR s B (s.1 52) C (s.1 54) X x) (E1 : isE 26 E) (E2 : cov σ D E) (E3 : VO σ t E) (b2 : VR s lo hi elo ehi E e) (kv : lo ≤ v ∧ v < hi) (g47 : s.2 47 v = D) (hF : ∀ r w, WP B C 1 2 s st (bnR (envE (EV σ most n).2 E st) (fun st G => actE (σ.2 9) (σ.2 10) (σ.2 14) (EV σ most n).1 D X .null G st)) r w → F r w) :
    cm iv L h0 (3 * n + 9) 131 [vr 307, vi e] s (qi fun r51 s50 => ((s50.1 59 ≤ 0 → cm iv L h0 (3 * n + 9) 128 [vr 307, vi (s50.2 47 v), vi x, vi (-9), vi r51] s50 (qi fun r53 s52 => F r53 s52)) ∧ (0 < s50.1 59 → F (-9) s50))) := by
  obtain ⟨y1, y2, y3⟩ := env_ok (EV_ok hX hFN n).2 26 E st E1 E3 hS.2.2.1.2
  refine envOn_ok hX hFN hH hO hS E1 E3 b2 (fun r' u hu => ?_)
  generalize envE (EV σ most n).2 E st = R at *
  have u59 : u.1 59 = R.2.1 := hu.2.2.2.1.2.2.1
  have kp2 := old_k hH hX hS hu.1 (hu.top hX hS y1 (by decide) (by decide))
  have h47 := (kp2.1 47 v (by decide) kv.1 kv.2).trans g47
  rw [u59, h47]
  by_cases g1 : R.2.1 = 0
  · obtain ⟨z1, z2, z3, z4⟩ := y3 g1
    rw [bnR_0 g1] at hF
    have S3 := hS.nx (k' := 1) hu y1 ⟨g1, z1⟩ (by decide)
    have hkp' := hu.1.keep (lo := B) (elo := C) (Or.inl (Int.le_refl _)) (Or.inl (Int.le_refl _))
    have hcov : cov σ D R.2.2.2 := fun z z0 z1 hz q => E2 z z0 z1 hz (z4 z q)
    have act := actM_ok (F := F) (Y := .null) (y := -9) (E := R.2.2.2) (e := r') hX hW S3 hD (by omega) ⟨hx.1, VR_k hx.2 hkp' hu.2.1.1 hu.2.2.1.1⟩ (fun q => by omega) (fun _ => ⟨⟨z2, z3, hcov⟩, hu.2.2.2.2 g1⟩) (fun r2 u2 hu2 => hF r2 u2 ((hu.tr hu2).up (by decide) (by decide)))
    exact ⟨fun _ => act, fun c => by omega⟩
  · rw [bnR_n g1] at hF
    have gp : 0 < R.2.1 := by have := y2.resolve_left g1; omega
    exact ⟨fun c => by omega, fun _ => hF _ u ((hu.up (by decide) (by decide)).st g1)⟩
theorem onp_rem {v : Int} {D : Nat} {A A' E : Term} {F : Int → SM → Prop} (hX : WCX σ t most B C) (hFN : FN σ t) (hH : OLDH σ lo hi elo ehi) (hW : WCO iv L h0 σ t most B C n) (hO : OCA iv L h0 σ t most lo hi elo ehi n) (hS : WS σ most B C n st 2 s) (hv : isV (.rem (.index D) (.elem A (.elem A' E))) = true) (hV : VO σ t (.rem (.index D) (.elem A (.elem A' E)))) (he : VR s lo hi elo ehi (.rem (.index D) (.elem A (.elem A' E))) v) (hF : ∀ r w, WP B C 2 2 s st (oplE (σ.2 9) (σ.2 10) (σ.2 14) (σ.2 42) (EV σ most n).1 (EV σ most n).2 (.rem (.index D) (.elem A (.elem A' E))) st) r w → F r w) : cm iv L h0 (3 * n + 10) 133 [vr 307, vi v] s (qi F) := by
  obtain ⟨q1, q2, q3⟩ := id hH
  obtain ⟨k1, k2, k3⟩ := VR_kind hv he
  have k1 : s.2 46 v = 7 := k1
  have hst := hS.2.2.1
  obtain ⟨a, a', e, ⟨c0, c1, c2, c3, c4, c5, c6⟩, v1, v2, v3⟩ := he
  obtain ⟨⟨D1, A1, A2⟩, hcase⟩ := hV
  obtain ⟨r1, r2, r3⟩ := (EV_ok hX hFN n).2 A st A1 A2 hst.2
  have hF' : ∀ r w, WP B C 2 2 s st (bnR ((EV σ most n).2 A st) (fun st x => bnR (optE (fun B => (EV σ most n).2 B st) st A') (fun st y => bnR (optE (fun E => envE (EV σ most n).2 E st) st E) (fun st F => actE (σ.2 9) (σ.2 10) (σ.2 14) (EV σ most n).1 D x y F st)))) r w → F r w := hF
  clear hF
  refine B133 ⟨by omega, fun q => by omega, fun q => by omega, fun q => by omega, fun q => by omega, fun q => by omega, fun _ => ?_⟩
  rw [c3]
  refine onA hX hO A a st s _ A1 A2 v1 (hS.up (by decide)) (fun r w hw hr9 => ?_)
  generalize (EV σ most n).2 A st = R at *
  have w59 : w.1 59 = R.2.1 := hw.2.2.2.1.2.2.1
  have kp := old_k hH hX hS hw.1 (hw.top hX hS r1 (by decide) (by decide))
  have g47 := (kp.1 47 v (by decide) k2.1 k2.2).trans c2
  have g49 := (kp.1 49 v (by decide) k2.1 k2.2).trans c4
  have g50 := (kp.1 50 v (by decide) k2.1 k2.2).trans c5
  by_cases g0 : R.2.1 = 0
  · obtain ⟨x1, x2, x3⟩ := r3 g0
    rw [bnR_0 g0] at hF'
    have S2 : WS σ most B C n R.1 2 w := hS.nx hw r1 ⟨g0, x1⟩ (by decide)
    have vx := hw.2.2.2.2 g0
    rw [w59, g49, g50, g47, g0]
    refine ⟨fun c => by omega, fun _ => ?_⟩
    rcases hcase with ⟨so, B1, B2, rfl⟩ | ⟨so, rfl, E1, E2, E3⟩ | ⟨so, rfl, rfl⟩
    · obtain ⟨b1, b2⟩ := v2.resolve_left (fun q => isV_nn B1 q.1)
      have kb := (VR_kind B1 b2).2.1
      have e9' : e = -9 := (v3.resolve_right (fun q => q.1 rfl)).2
      rw [e9'] at g50
      have hG : ∀ r2 u2, WP B C 1 1 w R.1 (bnR ((EV σ most n).2 A' R.1) (fun st y => actE (σ.2 9) (σ.2 10) (σ.2 14) (EV σ most n).1 D R.2.2.2 y .null st)) r2 u2 → F r2 u2 := fun r2 u2 hu2 => by
        refine hF' r2 u2 ?_
        rw [optE_v (isV_nn B1)]
        exact (hw.tr hu2).up (by decide) (by decide)
      exact ⟨fun _ => rem_a hX hFN hH hW hO S2 D1 so ⟨⟨x2, x3⟩, vx⟩ B1 B2 (VR_k b2 kp (Int.le_refl _) (Int.le_refl _)) k2 g47 g50 hG, fun c => by omega⟩
    · have b9 : a' = -9 := (v2.resolve_right (fun q => q.1 rfl)).2
      have Enn : E ≠ .null := fun q => by rw [q] at E1; exact E1.elim
      obtain ⟨b1, b2⟩ := v3.resolve_left (fun q => Enn q.1)
      have er := ((VR_E 26 E e E1 (Nat.le_refl _)).mp b2).1
      have hG : ∀ r2 u2, WP B C 1 2 w R.1 (bnR (envE (EV σ most n).2 E R.1) (fun st G => actE (σ.2 9) (σ.2 10) (σ.2 14) (EV σ most n).1 D R.2.2.2 .null G st)) r2 u2 → F r2 u2 := fun r2 u2 hu2 => by
        refine hF' r2 u2 ?_
        rw [optE_n, bnR_rok, optE_v Enn]
        exact (hw.tr hu2).up (by decide) (by decide)
      exact ⟨fun c => absurd b9 c, fun _ => ⟨fun c => by omega, fun _ => ⟨fun _ => rem_b hX hFN hH hW hO S2 D1 so ⟨⟨x2, x3⟩, vx⟩ E1 E2 E3 (VR_k b2 kp (Int.le_refl _) (Int.le_refl _)) k2 g47 hG, fun c => by omega⟩⟩⟩
    · have b9 : a' = -9 := (v2.resolve_right (fun q => q.1 rfl)).2
      have e9' : e = -9 := (v3.resolve_right (fun q => q.1 rfl)).2
      have hG : ∀ r2 u2, WP B C 1 1 w R.1 (actE (σ.2 9) (σ.2 10) (σ.2 14) (EV σ most n).1 D R.2.2.2 .null .null R.1) r2 u2 → F r2 u2 := fun r2 u2 hu2 => by
        refine hF' r2 u2 ?_
        rw [optE_n, bnR_rok, optE_n, bnR_rok]
        exact (hw.tr hu2).up (by decide) (by decide)
      have act := actM_ok (F := F) (Y := .null) (y := -9) (E := .null) (e := -9) hX hW (S2.up (by decide)) D1 (by omega) ⟨⟨x2, x3⟩, vx⟩ (fun q => by omega) (fun q => by omega) hG
      exact ⟨fun c => absurd b9 c, fun _ => ⟨fun c => by omega, fun _ => ⟨fun c => absurd e9' c, fun _ => ⟨fun _ => act, fun c => by omega⟩⟩⟩⟩
  · rw [bnR_n g0] at hF'
    have gp : 0 < R.2.1 := by have := r2.resolve_left g0; omega
    rw [w59]
    exact ⟨fun _ => ⟨fun _ => ⟨fun c => by omega, fun _ => hF' _ w ((hw.up (by decide) (by decide)).st g0)⟩, fun c => by omega⟩, fun c => by omega⟩
theorem onPlain_ok {v : Int} {V : Term} {F : Int → SM → Prop} (hX : WCX σ t most B C) (hFN : FN σ t) (hH : OLDH σ lo hi elo ehi) (hW : WCO iv L h0 σ t most B C n) (hO : OCA iv L h0 σ t most lo hi elo ehi n) (hS : WS σ most B C n st 2 s) (hv : isV V = true) (hV : VO σ t V) (he : VR s lo hi elo ehi V v) (hF : ∀ r w, WP B C 2 2 s st (oplE (σ.2 9) (σ.2 10) (σ.2 14) (σ.2 42) (EV σ most n).1 (EV σ most n).2 V st) r w → F r w) : cm iv L h0 (3 * n + 10) 133 [vr 307, vi v] s (qi F) := by
  cases V with
  | int z => exact onp_int hX hFN hH hW hO hS hv hV he hF
  | arg z => exact onp_arg hX hFN hH hW hO hS hv hV he hF
  | index z => exact onp_index hX hFN hH hW hO hS hv hV he hF
  | sub D E =>
    cases D with
    | index D => exact onp_sub hX hFN hH hW hO hS hv hV he hF
    | _ => cases hv
  | add A A' => exact onp_add hX hFN hH hW hO hS hv hV he hF
  | div D E =>
    cases D with
    | index D => exact onp_div hX hFN hH hW hO hS hv hV he hF
    | _ => cases hv
  | length A => exact onp_length hX hFN hH hW hO hS hv hV he hF
  | rem D q =>
    cases D with
    | index D =>
      cases q with
      | elem A q =>
        cases q with
        | elem A' E => exact onp_rem hX hFN hH hW hO hS hv hV he hF
        | _ => cases hv
      | _ => cases hv
    | _ => cases hv
  | _ => cases hv
theorem OCA_all (hFN : FN σ t) (hH : OLDH σ lo hi elo ehi) : ∀ n : Nat, n ≤ 60 → OCA iv L h0 σ t most lo hi elo ehi n := by
  intro n
  induction n with
  | zero =>
    intro _ B C v st V s hX hv hV he hS
    show cm iv L h0 (7 + 1) 132 [vr 307, vi v] s _
    exact B132 (beg_ok hX hS (by decide) (fun _ w hw => ⟨fun q => absurd rfl q, fun _ => ⟨hw, fun _ => rfl⟩⟩) (fun n' h => by omega))
  | succ n ih =>
    intro hn B C v st V s hX hv hV he hS
    obtain ⟨m1, m2⟩ := hX.bc
    have ev : ∀ R : RS, R = (EV σ most (n + 1)).2 V st → R = if st = most then rst st 4 (-9) else oplE (σ.2 9) (σ.2 10) (σ.2 14) (σ.2 42) (EV σ most n).1 (EV σ most n).2 V (st + 1) := fun R h => h
    have hRO : RO σ t most st ((EV σ most (n + 1)).2 V st) := (EV_ok hX hFN (n + 1)).2 V st hv hV hS.2.2.1.2
    rw [show 3 * (n + 1) + 8 = (3 * n + 10) + 1 by omega]
    refine B132 (beg_ok hX hS hn (fun q w hw => ⟨fun c => absurd rfl c, fun _ => ?_⟩) (fun n' h hst s1 S1 he1 h56 h58 => ⟨fun _ => ?_, fun c => by cases c⟩))
    · rw [ev _ rfl, if_pos (q.resolve_left (by omega))]
      exact ⟨hw, fun _ => rfl⟩
    · obtain rfl : n = n' := by omega
      have he' : VR s1 lo hi elo ehi V v := VR_k he ⟨fun f _ _ _ _ => by rw [he1.2 f (by simp)], fun _ _ _ => by rw [he1.2 53 (by simp)]⟩ (Int.le_refl _) (Int.le_refl _)
      have evn := ev _ rfl
      rw [if_neg hst] at evn
      refine onPlain_ok hX hFN hH (WCO_all hX n (by omega)) (ih (by omega)) (S1.up (by decide)) hv hV he' (fun r w hw => ?_)
      have w58 := hw.2.2.2.1.2.1
      have w59 := hw.2.2.2.1.2.2.1
      have S58 := hS.2.1.2.1
      have lv := lev_ok he1 h58 hw (by decide)
      rw [evn] at hRO ⊢
      refine ⟨by omega, fun q => ⟨lv, fun c => ?_⟩, fun q => ⟨lv.st (by omega), fun _ => rfl⟩⟩
      have := hRO.2.1
      omega
end
