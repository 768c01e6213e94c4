/-! The reference goes on with every value as evw says. -/
section
variable {iv : List (Int × Int)} {L : Nat} {h0 : MH} {σ s : SM} {t : Term} {d n : Nat} {most B C st k lo hi elo ehi : Int}
/-- a value that nobody will see -/
theorem junk_ok {w : SM} {R : RS} {r kv ke kk nn a b e : Int} {F : Int → SM → Prop} (hX : WCX σ t most B C) (hS : WS σ most B C n st k s) (hk : 0 ≤ k) (hw : WP B C kv ke s st R r w) (hR : R.2.1 ≠ 0 ∧ st ≤ R.1 ∧ R.1 ≤ most) (hkv : kv ≤ 20) (hab : kk = 3 → a ≠ -9 → b ≠ -9 → (0 ≤ a ∧ a < 2600) ∧ 0 ≤ b ∧ b < 2600) (hF : ∀ r' w', WP B C (kv + 1) ke s st R r' w' → F r' w') : cm iv L h0 d 121 [vr 307, vi kk, vi nn, vi a, vi b, vi e] w (qi F) := by
  obtain ⟨m1, m2⟩ := hX.bc
  obtain ⟨a1, a2, a3, a4, a5⟩ := hS
  obtain ⟨b1, b2, b3, b4, b5⟩ := hw
  refine val_ok (by omega) hab (fun v hv => hF _ v ?_)
  obtain ⟨v1, v2, v3, v4⟩ := hv
  have v54 : v.1 54 = w.1 54 := v1.1 54 (by decide)
  refine ⟨b1.tr ⟨v1.up (by decide) (by decide), fun f x hf hx => v3 f x hf (by omega), fun j _ => by rw [v1.2 53 (by decide)]⟩ ⟨b2.1, by omega⟩ ⟨b3.1, by omega⟩, ⟨by omega, by omega⟩, ⟨by omega, by omega⟩, ⟨?_, ?_, ?_, ?_⟩, fun q => absurd q hR.1⟩
  · rw [v1.1 56 (by decide)]; exact b4.1
  · rw [v1.1 58 (by decide)]; exact b4.2.1
  · rw [v1.1 59 (by decide)]; exact b4.2.2.1
  · rw [v1.1 60 (by decide)]; exact b4.2.2.2
theorem bnR_rok {st' : Int} {v' : Term} {f : Int → Term → RS} : bnR (rok st' v') f = f st' v' := rfl
theorem onA (hX : WCX σ t most B C) (hO : OCA iv L h0 σ t most lo hi elo ehi n) : ∀ (A : Term) (a st' : Int) (w : SM) (G : Int → SM → Prop), isV A = true → VO σ t A → VR w lo hi elo ehi A a → WS σ most B C n st' 0 w → (∀ r u, WP B C 0 0 w st' ((EV σ most n).2 A st') r u → (((EV σ most n).2 A st').2.1 ≠ 0 → r = -9) → G r u) → cm iv L h0 (3 * n + 9) 132 [vr 307, vi a] w (qi G) := fun A a st' w G h1 h2 h3 h4 h5 => wci_mono (hO B C a st' A w hX h1 h2 h3 h4) (by omega) (fun r u hu => h5 r u hu.1 hu.2)
theorem onp_int {v : Int} {z : Int32} {F : Int → SM → Prop} (hX : WCX σ t most B C) (hFN : FN σ t) (hH : OLDH σ lo hi elo ehi) (hW : WCO iv L h0 σ t most B C n) (hO : OCA iv L h0 σ t most lo hi elo ehi n) (hS : WS σ most B C n st 2 s) (hv : isV (.int z) = true) (hV : VO σ t (.int z)) (he : VR s lo hi elo ehi (.int z) v) (hF : ∀ r w, WP B C 2 2 s st (oplE (σ.2 9) (σ.2 10) (σ.2 14) (σ.2 42) (EV σ most n).1 (EV σ most n).2 (.int z) st) r w → F r w) : cm iv L h0 (3 * n + 10) 133 [vr 307, vi v] s (qi F) := by
  obtain ⟨m1, m2⟩ := hX.bc
  obtain ⟨⟨hT, hN, hR⟩, -⟩ := id hX
  obtain ⟨q1, q2, q3⟩ := id hH
  obtain ⟨k1, k2, k3⟩ := VR_kind hv he
  obtain ⟨ow, oo⟩ := EV_ok hX hFN n
  have hst := hS.2.2.1
  refine B133 ⟨by omega, ?_⟩
  have k1 : s.2 46 v = 0 := k1
  refine ⟨fun q => by omega, fun q => by omega, fun q => by omega, fun _ => ?_, fun q => by omega, fun q => by omega⟩
  obtain ⟨c0, c1, c2, c3, c4, c5, c6⟩ := he
  rw [c1, c2]
  refine wp_new (V := .int z) hX hS (by decide) (fun q => by omega) (fun w hw hkp hlo h54 => vcel hw hlo (by rw [if_neg (by omega)])) (fun w hw => hF _ w (hw.up (by decide) (by decide)))
theorem onp_arg {v : Int} {z : Nat} {F : Int → SM → Prop} (hX : WCX σ t most B C) (hFN : FN σ t) (hH : OLDH σ lo hi elo ehi) (hW : WCO iv L h0 σ t most B C n) (hO : OCA iv L h0 σ t most lo hi elo ehi n) (hS : WS σ most B C n st 2 s) (hv : isV (.arg z) = true) (hV : VO σ t (.arg z)) (he : VR s lo hi elo ehi (.arg z) v) (hF : ∀ r w, WP B C 2 2 s st (oplE (σ.2 9) (σ.2 10) (σ.2 14) (σ.2 42) (EV σ most n).1 (EV σ most n).2 (.arg z) st) r w → F r w) : cm iv L h0 (3 * n + 10) 133 [vr 307, vi v] s (qi F) := by
  obtain ⟨m1, m2⟩ := hX.bc
  obtain ⟨⟨hT, hN, hR⟩, -⟩ := id hX
  obtain ⟨q1, q2, q3⟩ := id hH
  obtain ⟨k1, k2, k3⟩ := VR_kind hv he
  obtain ⟨ow, oo⟩ := EV_ok hX hFN n
  have hst := hS.2.2.1
  refine B133 ⟨by omega, ?_⟩
  have k1 : s.2 46 v = 1 := k1
  refine ⟨fun q => by omega, fun q => by omega, fun q => by omega, fun _ => ?_, fun q => by omega, fun q => by omega⟩
  obtain ⟨c0, c1, c2, c3, c4, c5, c6⟩ := he
  rw [c1, c2]
  refine wp_new (V := .arg z) hX hS (by decide) (fun q => by omega) (fun w hw hkp hlo h54 => vcel hw hlo (by rw [if_neg (by omega)])) (fun w hw => hF _ w (hw.up (by decide) (by decide)))
theorem onp_index {v : Int} {z : Nat} {F : Int → SM → Prop} (hX : WCX σ t most B C) (hFN : FN σ t) (hH : OLDH σ lo hi elo ehi) (hW : WCO iv L h0 σ t most B C n) (hO : OCA iv L h0 σ t most lo hi elo ehi n) (hS : WS σ most B C n st 2 s) (hv : isV (.index z) = true) (hV : VO σ t (.index z)) (he : VR s lo hi elo ehi (.index z) v) (hF : ∀ r w, WP B C 2 2 s st (oplE (σ.2 9) (σ.2 10) (σ.2 14) (σ.2 42) (EV σ most n).1 (EV σ most n).2 (.index z) st) r w → F r w) : cm iv L h0 (3 * n + 10) 133 [vr 307, vi v] s (qi F) := by
  obtain ⟨m1, m2⟩ := hX.bc
  obtain ⟨⟨hT, hN, hR⟩, -⟩ := id hX
  obtain ⟨q1, q2, q3⟩ := id hH
  obtain ⟨k1, k2, k3⟩ := VR_kind hv he
  obtain ⟨ow, oo⟩ := EV_ok hX hFN n
  have hst := hS.2.2.1
  refine B133 ⟨by omega, ?_⟩
  have k1 : s.2 46 v = 5 := k1
  refine ⟨fun q => by omega, fun q => by omega, fun q => by omega, fun _ => ?_, fun q => by omega, fun q => by omega⟩
  obtain ⟨c0, c1, c2, c3, c4, c5, c6⟩ := he
  rw [c1, c2]
  refine wp_new (V := .index z) hX hS (by decide) (fun q => by omega) (fun w hw hkp hlo h54 => vcel hw hlo (by rw [if_pos (by omega)])) (fun w hw => hF _ w (hw.up (by decide) (by decide)))
theorem onp_add {v : Int} {A A' : Term} {F : Int → SM → Prop} (hX : WCX σ t most B C) (hFN : FN σ t) (hH : OLDH σ lo hi elo ehi) (hW : WCO iv L h0 σ t most B C n) (hO : OCA iv L h0 σ t most lo hi elo ehi n) (hS : WS σ most B C n st 2 s) (hv : isV (.add A A') = true) (hV : VO σ t (.add A A')) (he : VR s lo hi elo ehi (.add A A') v) (hF : ∀ r w, WP B C 2 2 s st (oplE (σ.2 9) (σ.2 10) (σ.2 14) (σ.2 42) (EV σ most n).1 (EV σ most n).2 (.add A A') st) r w → F r w) : cm iv L h0 (3 * n + 10) 133 [vr 307, vi v] s (qi F) := by
  obtain ⟨m1, m2⟩ := hX.bc
  obtain ⟨⟨hT, hN, hR⟩, -⟩ := id hX
  obtain ⟨q1, q2, q3⟩ := id hH
  obtain ⟨k1, k2, k3⟩ := VR_kind hv he
  obtain ⟨ow, oo⟩ := EV_ok hX hFN n
  have hst := hS.2.2.1
  refine B133 ⟨by omega, ?_⟩
  have k1 : s.2 46 v = 3 := k1
  refine ⟨fun q => by omega, fun _ => ?_, fun q => by omega, fun q => by omega, fun q => by omega, fun q => by omega⟩
  obtain ⟨a, a', ⟨c0, c1, c2, c3, c4, c5, c6⟩, v1, v2⟩ := he
  obtain ⟨⟨A1, A2⟩, A3, A4⟩ := hV
  obtain ⟨r1, r2, r3⟩ := oo A st A1 A2 hst.2
  have hF' : ∀ r w, WP B C 2 2 s st (bnR ((EV σ most n).2 A st) (fun st x => bnR ((EV σ most n).2 A' st) (fun st y => rok st (.add x y)))) r w → F r w := hF
  rw [c3]
  refine onA hX hO A a st s _ A1 A2 v1 (hS.up (by decide)) (fun r w hw hr9 => ?_)
  have w59 : w.1 59 = ((EV σ most n).2 A st).2.1 := hw.2.2.2.1.2.2.1
  have kp := old_k hH hX hS hw.1 (hw.top hX hS r1 (by decide) (by decide))
  rw [w59, kp.1 49 v (by decide) k2.1 k2.2, c4]
  by_cases g0 : ((EV σ most n).2 A st).2.1 = 0
  · obtain ⟨x1, x2, x3⟩ := r3 g0
    rw [bnR_0 g0] at hF'
    have S2 : WS σ most B C n ((EV σ most n).2 A st).1 2 w := hS.nx hw r1 ⟨g0, x1⟩ (by decide)
    obtain ⟨y1, y2, y3⟩ := oo A' ((EV σ most n).2 A st).1 A3 A4 r1.2
    have vx := hw.2.2.2.2 g0
    have kx := VR_kind x2 vx
    refine ⟨fun _ => onA hX hO A' a' _ w _ A3 A4 (VR_k v2 kp (Int.le_refl _) (Int.le_refl _)) (S2.up (by decide)) (fun r' u hu hu9 => ?_), fun c => by omega⟩
    by_cases g1 : ((EV σ most n).2 A' ((EV σ most n).2 A st).1).2.1 = 0
    · obtain ⟨z1, z2, z3⟩ := y3 g1
      rw [bnR_0 g1] at hF'
      have S3 := S2.nx (k' := 2) hu y1 ⟨g1, z1⟩ (by decide)
      have vy := hu.2.2.2.2 g1
      have ky := VR_kind z2 vy
      have hkp' := hu.1.keep (lo := B) (elo := C) (Or.inl (Int.le_refl _)) (Or.inl (Int.le_refl _))
      have vx' := VR_k vx hkp' hu.2.1.1 hu.2.2.1.1
      have kx' := VR_kind x2 vx'
      have s3 := S3.2.2.2.1
      have y12 := y1.2
      refine wp_new (V := .add _ _) hX S3 (by decide) (fun _ _ _ => by omega) (fun u2 hu2 hkp hlo h54 => ⟨r, r', vcel hu2 hlo ?_, VR_k vx' hkp (by omega) (by omega), VR_k vy hkp (by omega) (by omega)⟩) (fun u2 hu2 => hF' _ u2 (((hw.tr hu).tr hu2).up (by decide) (by decide)))
      rw [kx'.2.2, ky.2.2]
      have hr : r ≠ -9 := by omega
      have hr' : r' ≠ -9 := by omega
      cases hX1 : hsL ((EV σ most n).2 A st).2.2.2 <;> cases hY1 : hsL ((EV σ most n).2 A' ((EV σ most n).2 A st).1).2.2.2 <;> simp [hX1, hY1, hr, hr']
    · rw [bnR_n g1] at hF'
      have hr' := hu9 g1
      refine junk_ok hX hS (by decide) (hw.tr hu) ⟨g1, by omega, y1.2⟩ (by decide) (fun _ _ c => absurd hr' c) (fun r2 u2 hu2 => hF' r2 u2 (hu2.up (by decide) (by decide)))
  · rw [bnR_n g0] at hF'
    have gp : 0 < ((EV σ most n).2 A st).2.1 := by have := r2.resolve_left g0; omega
    exact ⟨fun c => by omega, fun _ => junk_ok hX hS (by decide) hw ⟨g0, r1⟩ (by decide) (fun _ _ c => absurd rfl c) (fun r2 u2 hu2 => hF' r2 u2 (hu2.up (by decide) (by decide)))⟩
theorem onp_length {v : Int} {A : Term} {F : Int → SM → Prop} (hX : WCX σ t most B C) (hFN : FN σ t) (hH : OLDH σ lo hi elo ehi) (hW : WCO iv L h0 σ t most B C n) (hO : OCA iv L h0 σ t most lo hi elo ehi n) (hS : WS σ most B C n st 2 s) (hv : isV (.length A) = true) (hV : VO σ t (.length A)) (he : VR s lo hi elo ehi (.length A) v) (hF : ∀ r w, WP B C 2 2 s st (oplE (σ.2 9) (σ.2 10) (σ.2 14) (σ.2 42) (EV σ most n).1 (EV σ most n).2 (.length A) st) r w → F r w) : cm iv L h0 (3 * n + 10) 133 [vr 307, vi v] s (qi F) := by
  obtain ⟨m1, m2⟩ := hX.bc
  obtain ⟨⟨hT, hN, hR⟩, -⟩ := id hX
  obtain ⟨q1, q2, q3⟩ := id hH
  obtain ⟨k1, k2, k3⟩ := VR_kind hv he
  obtain ⟨ow, oo⟩ := EV_ok hX hFN n
  have hst := hS.2.2.1
  refine B133 ⟨by omega, ?_⟩
  have k1 : s.2 46 v = 6 := k1
  refine ⟨fun q => by omega, fun q => by omega, fun q => by omega, fun q => by omega, fun _ => ?_, fun q => by omega⟩
  obtain ⟨a, ⟨c0, c1, c2, c3, c4, c5, c6⟩, v1⟩ := he
  obtain ⟨A1, A2⟩ := hV
  obtain ⟨r1, r2, r3⟩ := oo A st A1 A2 hst.2
  have hF' : ∀ r w, WP B C 2 2 s st (bnR ((EV σ most n).2 A st) (fun st x => rok st (.length x))) r w → F r w := hF
  rw [c3]
  refine onA hX hO A a st s _ A1 A2 v1 (hS.up (by decide)) (fun r w hw hr9 => ?_)
  by_cases g0 : ((EV σ most n).2 A st).2.1 = 0
  · obtain ⟨x1, x2, x3⟩ := r3 g0
    rw [bnR_0 g0] at hF'
    have S2 : WS σ most B C n ((EV σ most n).2 A st).1 2 w := hS.nx hw r1 ⟨g0, x1⟩ (by decide)
    exact wp_new (V := .length _) hX S2 (by decide) (fun q => by omega) (fun u hu hkp hlo h54 => ⟨r, vcel hu hlo (by rw [if_pos (by omega)]), VR_k (hw.2.2.2.2 g0) hkp (by omega) (by omega)⟩) (fun u hu => hF' _ u ((hw.tr hu).up (by decide) (by decide)))
  · rw [bnR_n g0] at hF'
    exact junk_ok hX hS (by decide) hw ⟨g0, r1⟩ (by decide) (fun q => by omega) (fun r' w' hw' => hF' r' w' (hw'.up (by decide) (by decide)))
theorem onp_sub {v : Int} {D : Nat} {E : Term} {F : Int → SM → Prop} (hX : WCX σ t most B C) (hFN : FN σ t) (hH : OLDH σ lo hi elo ehi) (hW : WCO iv L h0 σ t most B C n) (hO : OCA iv L h0 σ t most lo hi elo ehi n) (hS : WS σ most B C n st 2 s) (hv : isV (.sub (.index D) E) = true) (hV : VO σ t (.sub (.index D) E)) (he : VR s lo hi elo ehi (.sub (.index D) E) v) (hF : ∀ r w, WP B C 2 2 s st (oplE (σ.2 9) (σ.2 10) (σ.2 14) (σ.2 42) (EV σ most n).1 (EV σ most n).2 (.sub (.index D) E) st) r w → F r w) : cm iv L h0 (3 * n + 10) 133 [vr 307, vi v] s (qi F) := by
  obtain ⟨m1, m2⟩ := hX.bc
  obtain ⟨⟨hT, hN, hR⟩, -⟩ := id hX
  obtain ⟨q1, q2, q3⟩ := id hH
  obtain ⟨k1, k2, k3⟩ := VR_kind hv he
  obtain ⟨ow, oo⟩ := EV_ok hX hFN n
  have hst := hS.2.2.1
  refine B133 ⟨by omega, ?_⟩
  have k1 : s.2 46 v = 2 := k1
  refine ⟨fun _ => ?_, fun q => by omega, fun q => by omega, fun q => by omega, fun q => by omega, fun q => by omega⟩
  obtain ⟨e, ⟨c0, c1, c2, c3, c4, c5, c6⟩, hE⟩ := he
  obtain ⟨d1, d2, d3, d4⟩ := hV
  obtain ⟨r1, r2, r3⟩ := env_ok oo 26 E st d3 d4 hst.2
  rw [c5]
  refine envOn_ok hX hFN hH hO hS d3 d4 hE (fun r w hw => ?_)
  have hF' : ∀ r w, WP B C 2 2 s st (bnR (envE (EV σ most n).2 E st) (fun st F => rok st (.sub (.index D) F))) r w → F r w := hF
  have kp := old_k hH hX hS hw.1 (hw.top hX hS r1 (by decide) (by decide))
  rw [kp.1 47 v (by decide) k2.1 k2.2, c2]
  by_cases g0 : (envE (EV σ most n).2 E st).2.1 = 0
  · obtain ⟨x1, x2, x3, x4⟩ := r3 g0
    rw [bnR_0 g0] at hF'
    have S2 : WS σ most B C n (envE (EV σ most n).2 E st).1 1 w := hS.nx hw r1 ⟨g0, x1⟩ (by decide)
    exact wp_new (V := .sub (.index D) _) hX S2 (by decide) (fun q => by omega) (fun u hu hkp hlo h54 => ⟨r, vcel hu hlo (by rw [if_neg (by omega)]), VR_k (hw.2.2.2.2 g0) hkp (by omega) (by omega)⟩) (fun u hu => hF' _ u ((hw.tr hu).up (by decide) (by decide)))
  · rw [bnR_n g0] at hF'
    exact junk_ok hX hS (by decide) hw ⟨g0, r1⟩ (by decide) (fun q => by omega) (fun r' w' hw' => hF' r' w' (hw'.up (by decide) (by decide)))
theorem onp_div {v : Int} {D : Nat} {E : Term} {F : Int → SM → Prop} (hX : WCX σ t most B C) (hFN : FN σ t) (hH : OLDH σ lo hi elo ehi) (hW : WCO iv L h0 σ t most B C n) (hO : OCA iv L h0 σ t most lo hi elo ehi n) (hS : WS σ most B C n st 2 s) (hv : isV (.div (.index D) E) = true) (hV : VO σ t (.div (.index D) E)) (he : VR s lo hi elo ehi (.div (.index D) E) v) (hF : ∀ r w, WP B C 2 2 s st (oplE (σ.2 9) (σ.2 10) (σ.2 14) (σ.2 42) (EV σ most n).1 (EV σ most n).2 (.div (.index D) E) st) r w → F r w) : cm iv L h0 (3 * n + 10) 133 [vr 307, vi v] s (qi F) := by
  obtain ⟨m1, m2⟩ := hX.bc
  obtain ⟨⟨hT, hN, hR⟩, -⟩ := id hX
  obtain ⟨q1, q2, q3⟩ := id hH
  obtain ⟨k1, k2, k3⟩ := VR_kind hv he
  obtain ⟨ow, oo⟩ := EV_ok hX hFN n
  have hst := hS.2.2.1
  refine B133 ⟨by omega, ?_⟩
  have k1 : s.2 46 v = 4 := k1
  refine ⟨fun q => by omega, fun q => by omega, fun _ => ?_, fun q => by omega, fun q => by omega, fun q => by omega⟩
  obtain ⟨e, ⟨c0, c1, c2, c3, c4, c5, c6⟩, hE⟩ := he
  obtain ⟨⟨d0, d1, d2⟩, d3, d4, d5⟩ := hV
  obtain ⟨r1, r2, r3⟩ := env_ok oo 26 E st d4 d5 hst.2
  rw [c5]
  refine envOn_ok hX hFN hH hO hS d4 d5 hE (fun r w hw => ?_)
  have hF' : ∀ r w, WP B C 2 2 s st (bnR (envE (EV σ most n).2 E st) (fun st F => if fllF (σ.2 42) D = D then rok st (.div (.index D) F) else (EV σ most n).1 (fllF (σ.2 42) D) F st)) r w → F r w := hF
  have kp := old_k hH hX hS hw.1 (hw.top hX hS r1 (by decide) (by decide))
  have w59 : w.1 59 = (envE (EV σ most n).2 E st).2.1 := hw.2.2.2.1.2.2.1
  have w42 : w.2 42 = σ.2 42 := (hw.1.1.2 42 (by decide)).trans (hS.row (by decide))
  rw [kp.1 47 v (by decide) k2.1 k2.2, c2]
  refine filling_ok hX w42 (by omega) ?_
  rw [w59]
  by_cases g0 : (envE (EV σ most n).2 E st).2.1 = 0
  · obtain ⟨x1, x2, x3, x4⟩ := r3 g0
    rw [bnR_0 g0] at hF'
    have S2 : WS σ most B C n (envE (EV σ most n).2 E st).1 1 w := hS.nx hw r1 ⟨g0, x1⟩ (by decide)
    have fl := hT.lt d1
    refine ⟨fun _ => ⟨fun q => ?_, fun q => ?_⟩, fun c => by omega⟩
    · have hne : ¬ fllF (σ.2 42) D = D := fun c => q (if_pos c)
      rw [if_neg hne]
      rw [if_neg hne] at hF'
      have ht := tgt_f hFN d2 hne
      rw [ht] at d1 d3
      exact sub_ok hW d1 ⟨x2, x3, fun x x0 x1 hx q => d3 x x0 x1 hx (x4 x q)⟩ (hw.2.2.2.2 g0) S2 (by decide) (by omega) (fun r' u hu => hF' r' u ((hw.tr hu).up (by decide) (by decide)))
    · have heq : fllF (σ.2 42) D = D := Classical.byContradiction fun c => by rw [if_neg c] at q; have ht := tgt_f hFN d2 c; omega
      rw [if_pos heq] at hF'
      rw [kp.1 47 v (by decide) k2.1 k2.2, c2]
      exact wp_new (V := .div (.index D) _) hX S2 (by decide) (fun q => by omega) (fun u hu hkp hlo h54 => ⟨r, vcel hu hlo (by rw [if_pos (by omega)]), VR_k (hw.2.2.2.2 g0) hkp (by omega) (by omega)⟩) (fun u hu => hF' _ u ((hw.tr hu).up (by decide) (by decide)))
  · rw [bnR_n g0] at hF'
    have gp : 0 < (envE (EV σ most n).2 E st).2.1 := by have := r2.resolve_left g0; omega
    exact ⟨fun c => by omega, fun _ => hF' _ w ((hw.up (by decide) (by decide)).st g0)⟩
end
