section
/-! The reference works as evw says: nodes. -/
theorem num_in {h0 : MH} {s : SM} (h : ∃ H, RepM h0 s H) {b : Int} (hb : 0 ≤ b ∧ b < 3004) : inR (s.2 10 b) := by
  obtain ⟨H, -, -, -, hA⟩ := h
  obtain ⟨l, -, h2⟩ := hA 10 _ _ _ (rfl : mfl[10]? = some (some (314, 0, 3004)))
  have := (h2 b.toNat (by omega)).2
  rw [show ((b.toNat : Nat) : Int) = b by omega] at this
  exact this
section
variable {iv : List (Int × Int)} {L : Nat} {h0 : MH} {σ s : SM} {t : Term} {d n : Nat} {most B C st k : Int}
theorem EV_okw (hX : WCX σ t most B C) (n : Nat) : ∀ b E st, b ∈ fl t → isE 26 E → VN σ t E → cov σ b E → st ≤ most → RO σ t most st ((EV σ most n).1 b E st) := evw_okw hX.1.1 hX.1.2.1 hX.1.2.2 most n
theorem EV_ok (hX : WCX σ t most B C) (hFN : FN σ t) (n : Nat) : (∀ b E st, b ∈ fl t → isE 26 E → VN σ t E → cov σ b E → st ≤ most → RO σ t most st ((EV σ most n).1 b E st)) ∧ (∀ v st, isV v = true → VO σ t v → st ≤ most → RO σ t most st ((EV σ most n).2 v st)) := evw_ok hX.1.1 hX.1.2.1 hX.1.2.2 hFN most n
theorem plain_ok {b e : Int} {E : Term} {F : Int → SM → Prop} (hX : WCX σ t most B C) (hW : WCO iv L h0 σ t most B C n) (hS : WS σ most B C n st 2 s) (hb : b ∈ fl t) (hE : isE 26 E ∧ VN σ t E ∧ cov σ b E) (he : VR s B (s.1 52) C (s.1 54) E e) (hF : ∀ r w, WP B C 1 1 s st (wplE (σ.2 9) (σ.2 10) (σ.2 14) (σ.2 21) (EV σ most n).1 b E st) r w → F r w) : cm iv L h0 (3 * n + 10) 127 [vr 307, vi b, vi e] s (qi F) := by
  refine wc_ok (fun _ hrep => ?_)
  obtain ⟨m1, m2⟩ := hX.bc
  obtain ⟨⟨hT, hN, hR⟩, -⟩ := id hX
  have hbl := hT.lt hb
  obtain ⟨n1, n2, n3, n4⟩ := hN b hbl.1 hbl.2.1
  have h52 : B ≤ s.1 52 ∧ s.1 52 ≤ 1300 * σ.1 55 + 610 := by obtain ⟨a1, a2, a3, a4, a5⟩ := hS; omega
  have h54 : C ≤ s.1 54 ∧ s.1 54 ≤ 640 * σ.1 55 + 610 := by obtain ⟨a1, a2, a3, a4, a5⟩ := hS; omega
  have e9 : s.2 9 = σ.2 9 := hS.row (by decide)
  have e10 : s.2 10 = σ.2 10 := hS.row (by decide)
  have e14 : s.2 14 = σ.2 14 := hS.row (by decide)
  have e21 : s.2 21 = σ.2 21 := hS.row (by decide)
  have nin := num_in hrep (b := b) (by omega)
  rw [e10] at nin
  obtain ⟨c1, c2⟩ := (VR_E 26 E e hE.1 (Nat.le_refl _)).mp he
  have eb : ((b.toNat : Nat) : Int) = b := by omega
  have ow := EV_okw hX n
  unfold wplE at hF
  have prt : ∀ i, 0 ≤ i → i < pO (σ.2 9 b) → ¬ (σ.2 9 b = 8 ∨ (σ.2 9 b = 10 ∧ i = 1)) → σ.2 14 (3 * b + i) ∈ fl t ∧ cov σ (σ.2 14 (3 * b + i)) E := fun i i0 i1 hn => cov_part hT hb ⟨i0, i1⟩ hn hE.2.2
  have prt0 : 0 < pO (σ.2 9 b) → ¬ σ.2 9 b = 8 → σ.2 14 (3 * b) ∈ fl t ∧ cov σ (σ.2 14 (3 * b)) E := fun i1 hn => by
    have := prt 0 (Int.le_refl 0) i1 (by omega)
    rw [Int.add_zero] at this
    exact this
  refine B127 ⟨by omega, ?_⟩
  rw [e9, e10, e14, e21]
  refine ⟨fun q => ?_, fun q => ?_, fun q => ?_, fun q => ?_, fun q => ?_, fun q => ?_, fun q => ?_, fun q => ?_⟩
  · rw [if_pos q] at hF
    refine wp_new (V := .div (.index b.toNat) E) hX hS (by decide) (fun q => by omega) (fun w hw hkp hlo h54 => ⟨e, ?_, VR_k he hkp (by omega) (by omega)⟩) (fun w hw => hF _ w (hw.up (by decide) (by decide)))
    rw [eb]
    exact vcel hw hlo (by rw [if_pos (Or.inl (by decide))])
  · rw [if_neg (by omega), if_pos q] at hF
    refine wp_new (V := .int (Int32.ofInt (σ.2 10 b))) hX hS (by decide) (fun q => by omega) (fun w hw hkp hlo h54 => ?_) (fun w hw => hF _ w (hw.up (by decide) (by decide)))
    show cel w B (w.1 52) (s.1 52) 0 (Int32.ofInt (σ.2 10 b)).toInt (-9) (-9) (-9) 0
    rw [i_to nin]
    exact vcel hw hlo (by rw [if_neg (by omega)])
  · rw [if_neg (by omega), if_neg (by omega), if_pos q] at hF
    refine wp_new (V := .arg (σ.2 10 b).toNat) hX hS (by decide) (fun q => by omega) (fun w hw hkp hlo h54 => ?_) (fun w hw => hF _ w (hw.up (by decide) (by decide)))
    have := n3 q
    show cel w B (w.1 52) (s.1 52) 1 (((σ.2 10 b).toNat : Nat) : Int) (-9) (-9) (-9) 0
    rw [show (((σ.2 10 b).toNat : Nat) : Int) = σ.2 10 b by omega]
    exact vcel hw hlo (by rw [if_neg (by omega)])
  · rw [if_neg (by omega), if_neg (by omega), if_neg (by omega), if_pos q] at hF
    have hnu := n2 (Or.inl q)
    refine ⟨fun q2 => ⟨by omega, by omega, by omega, ?_⟩, fun q2 => ?_⟩
    · rw [if_neg q2] at hF
      refine hF _ s ⟨FRM.rf, ⟨Int.le_refl _, by show s.1 52 ≤ s.1 52 + 2 * (st - st) + 1; omega⟩, ⟨Int.le_refl _, by show s.1 54 ≤ s.1 54 + 2 * (st - st) + 1; omega⟩, ⟨hS.2.1.1, rfl, hS.2.1.2.2.1, hS.2.1.2.2.2⟩, fun _ => ?_⟩
      rcases c2 (σ.2 10 b) hnu.1 hnu.2 with c | c
      · exact absurd c.1 (hE.2.2 _ hnu.1 hnu.2 (hR b hb q q2))
      · exact c.2
    · rw [if_pos q2] at hF
      refine wp_new (V := .index (σ.2 10 b).toNat) hX hS (by decide) (fun q => by omega) (fun w hw hkp hlo h54 => ?_) (fun w hw => hF _ w (hw.up (by decide) (by decide)))
      show cel w B (w.1 52) (s.1 52) 5 (((σ.2 10 b).toNat : Nat) : Int) (-9) (-9) (-9) 1
      rw [show (((σ.2 10 b).toNat : Nat) : Int) = σ.2 10 b by omega]
      exact vcel hw hlo (by rw [if_pos (Or.inl (by decide))])
  · -- acts
    rw [if_neg (by omega), if_neg (by omega), if_neg (by omega), if_neg (by omega), if_neg (by omega), if_neg (by omega), if_neg (by omega)] at hF
    have hp1 : 0 < pO (σ.2 9 b) := by
      rcases (show σ.2 9 b = 4 ∨ σ.2 9 b = 5 ∨ σ.2 9 b = 6 ∨ σ.2 9 b = 7 ∨ σ.2 9 b = 9 ∨ σ.2 9 b = 11 ∨ σ.2 9 b = 12 ∨ σ.2 9 b = 13 ∨ σ.2 9 b = 14 by omega) with e | e | e | e | e | e | e | e | e <;> rw [e] <;> decide
    obtain ⟨p1, p2⟩ := prt0 hp1 (by omega)
    obtain ⟨r1, r2, r3⟩ := ow _ E st p1 hE.1 hE.2.1 p2 hS.2.2.1.2
    refine ⟨by omega, by omega, sub_ok hW p1 ⟨hE.1, hE.2.1, p2⟩ he hS (by decide) (by omega) (fun r w hw => ?_)⟩
    have w59 : w.1 59 = ((EV σ most n).1 (σ.2 14 (3 * b)) E st).2.1 := hw.2.2.2.1.2.2.1
    have hkp := hw.1.keep (lo := B) (elo := C) (Or.inl (Int.le_refl _)) (Or.inl (Int.le_refl _))
    by_cases g0 : ((EV σ most n).1 (σ.2 14 (3 * b)) E st).2.1 = 0
    · obtain ⟨x1, x2, x3⟩ := r3 g0
      rw [bnR_0 g0] at hF
      have S2 : WS σ most B C n ((EV σ most n).1 (σ.2 14 (3 * b)) E st).1 2 w := hS.nx hw r1 ⟨g0, x1⟩ (by decide)
      have w9 : w.2 9 = σ.2 9 := S2.row (by decide)
      have w14 : w.2 14 = σ.2 14 := S2.row (by decide)
      have vx := hw.2.2.2.2 g0
      have he2 := VR_k he hkp hw.2.1.1 hw.2.2.1.1
      rw [w9, w59, g0, w14]
      have a2 : ¬ pO (σ.2 9 b) = 2 → cm iv L h0 (3 * n + 9) 128 [vr 307, vi b, vi r, vi (-9), vi e] w (qi fun r19 s18 => F r19 s18) := fun hp => by
        rw [if_neg hp] at hF
        exact actM_ok hX hW (S2.up (by decide)) hb (by omega) ⟨⟨x2, x3⟩, vx⟩ (fun q3 => by exfalso; rcases q3 with q | q | q | q | q | q <;> rw [q] at hp <;> exact hp rfl) (fun _ => ⟨hE, he2⟩) (fun r v hv => hF r v ((hw.tr hv).up (by decide) (by decide)))
      refine ⟨by omega, fun hp => ⟨fun _ => a2 hp, fun c => by omega⟩, fun hp => ⟨fun c => absurd rfl c, fun _ => ?_⟩⟩
      rw [if_pos hp] at hF
      obtain ⟨p3, p4⟩ := prt 1 (by decide) (by omega) (by omega)
      obtain ⟨y1, y2, y3⟩ := ow _ E ((EV σ most n).1 (σ.2 14 (3 * b)) E st).1 p3 hE.1 hE.2.1 p4 r1.2
      refine ⟨by omega, by omega, sub_ok hW p3 ⟨hE.1, hE.2.1, p4⟩ he2 S2 (by decide) (by omega) (fun r' w' hw' => ?_)⟩
      have w59' : w'.1 59 = ((EV σ most n).1 (σ.2 14 (3 * b + 1)) E ((EV σ most n).1 (σ.2 14 (3 * b)) E st).1).2.1 := hw'.2.2.2.1.2.2.1
      have hkp' := hw'.1.keep (lo := B) (elo := C) (Or.inl (Int.le_refl _)) (Or.inl (Int.le_refl _))
      rw [w59']
      by_cases g1 : ((EV σ most n).1 (σ.2 14 (3 * b + 1)) E ((EV σ most n).1 (σ.2 14 (3 * b)) E st).1).2.1 = 0
      · obtain ⟨z1, z2, z3⟩ := y3 g1
        rw [bnR_0 g1] at hF
        have S3 := S2.nx (k' := 2) hw' y1 ⟨g1, z1⟩ (by decide)
        refine ⟨fun _ => actM_ok hX hW (S3.up (by decide)) hb (by omega) ⟨⟨x2, x3⟩, VR_k vx hkp' hw'.2.1.1 hw'.2.2.1.1⟩ (fun _ => ⟨⟨z2, z3⟩, hw'.2.2.2.2 g1⟩) (fun _ => ⟨hE, VR_k he2 hkp' hw'.2.1.1 hw'.2.2.1.1⟩) (fun r v hv => hF r v (((hw.tr hw').tr hv).up (by decide) (by decide))), fun c => by omega⟩
      · rw [bnR_n g1] at hF
        have gp : 0 < ((EV σ most n).1 (σ.2 14 (3 * b + 1)) E ((EV σ most n).1 (σ.2 14 (3 * b)) E st).1).2.1 := by have := y2.resolve_left g1; omega
        exact ⟨fun c => by omega, fun _ => hF _ w' (((hw.tr hw').up (by decide) (by decide)).st g1)⟩
    · rw [bnR_n g0] at hF
      have gp : 0 < ((EV σ most n).1 (σ.2 14 (3 * b)) E st).2.1 := by have := r2.resolve_left g0; omega
      have fin : F (-9) w := hF _ w ((hw.up (by decide) (by decide)).st g0)
      have w9 : w.2 9 = σ.2 9 := by
        have := hw.1.1.2 9 (by decide)
        rw [this, e9]
      rw [w9, w59]
      exact ⟨by omega, fun _ => ⟨fun c => by omega, fun _ => fin⟩, fun _ => ⟨fun _ => ⟨fun c => by omega, fun _ => fin⟩, fun c => absurd c g0⟩⟩
  · rw [if_neg (by omega), if_neg (by omega), if_neg (by omega), if_neg (by omega), if_pos q] at hF
    refine wp_new (V := .sub (.index b.toNat) E) hX hS (by decide) (fun q => by omega) (fun w hw hkp hlo h54 => ⟨e, ?_, VR_k he hkp (by omega) (by omega)⟩) (fun w hw => hF _ w (hw.up (by decide) (by decide)))
    rw [eb]
    exact vcel hw hlo (by rw [if_neg (by omega)])
  · -- let
    rw [if_neg (by omega), if_neg (by omega), if_neg (by omega), if_neg (by omega), if_neg (by omega), if_neg (by omega), if_pos q] at hF
    have hnu := n2 (Or.inr (Or.inr q))
    obtain ⟨p1, p2⟩ := prt0 (by rw [q]; decide) (by omega)
    obtain ⟨r1, r2, r3⟩ := ow _ E st p1 hE.1 hE.2.1 p2 hS.2.2.1.2
    refine ⟨by omega, by omega, sub_ok hW p1 ⟨hE.1, hE.2.1, p2⟩ he hS (by decide) (by omega) (fun r w hw => ?_)⟩
    have w59 : w.1 59 = ((EV σ most n).1 (σ.2 14 (3 * b)) E st).2.1 := hw.2.2.2.1.2.2.1
    have hkp := hw.1.keep (lo := B) (elo := C) (Or.inl (Int.le_refl _)) (Or.inl (Int.le_refl _))
    rw [w59]
    by_cases g0 : ((EV σ most n).1 (σ.2 14 (3 * b)) E st).2.1 = 0
    · obtain ⟨x1, x2, x3⟩ := r3 g0
      rw [bnR_0 g0] at hF
      have S2 : WS σ most B C n ((EV σ most n).1 (σ.2 14 (3 * b)) E st).1 2 w := hS.nx hw r1 ⟨g0, x1⟩ (by decide)
      have w10 : w.2 10 = σ.2 10 := S2.row (by decide)
      have w14 : w.2 14 = σ.2 14 := S2.row (by decide)
      have he2 := VR_k he hkp hw.2.1.1 hw.2.2.1.1
      have vx := hw.2.2.2.2 g0
      have cb := cov_bind hT hN (i := 1) hb (by rw [q]; decide) (Or.inr ⟨q, rfl⟩) hE.1 (isV_nn x2) hE.2.2
      have w54 : C ≤ w.1 54 ∧ w.1 54 ≤ 640 * σ.1 55 + 610 := by obtain ⟨a1, a2, a3, a4, a5⟩ := S2; omega
      refine ⟨fun _ => wp_bind hX S2 (by decide) hE.1 hnu he2 ⟨x2, vx⟩ (fun v v10 v14 hv => ?_), fun c => by omega⟩
      rw [v10, v14, w10, w14]
      have S3 := S2.nx (k' := 0) hv ⟨Int.le_refl _, S2.2.2.1.2⟩ ⟨rfl, rfl⟩ (by decide)
      exact ⟨by omega, by omega, by omega, by omega, by omega, sub_ok hW cb.1 ⟨upE_is 26 _ _ _ hE.1, VN_up _ _ _ hE.2.1 x2 x3, cb.2⟩ (hv.2.2.2.2 rfl) S3 (by decide) (by omega) (fun r' v' hv' => hF r' v' (((hw.tr hv).tr hv').up (by decide) (by decide)))⟩
    · rw [bnR_n g0] at hF
      have gp : 0 < ((EV σ most n).1 (σ.2 14 (3 * b)) E st).2.1 := by have := r2.resolve_left g0; omega
      exact ⟨fun c => by omega, fun _ => hF _ w ((hw.up (by decide) (by decide)).st g0)⟩
  · rw [if_neg (by omega), if_neg (by omega), if_neg (by omega), if_neg (by omega), if_neg (by omega), if_pos q] at hF
    obtain ⟨p1, p2⟩ := prt0 (by rw [q]; decide) (by omega)
    exact ⟨by omega, by omega, sub_ok hW p1 ⟨hE.1, hE.2.1, p2⟩ he hS (by decide) (by omega) (fun r w hw => hF r w (hw.up (by decide) (by decide)))⟩
/-- one step is begun -/
theorem beg_ok {b : Int} {F : Int → SM → Prop} (hX : WCX σ t most B C) (hS : WS σ most B C n st k s) (hn : n ≤ 60) (H0 : (n = 0 ∨ st = most) → ∀ w, WP B C 0 0 s st (rst st 4 b) (-9) w → F 0 w) (H1 : ∀ n', n = n' + 1 → st ≠ most → ∀ w, WS σ most B C n' (st + 1) (k + 2) w → eqx [56, 58] [] s w → w.1 56 = st + 1 → w.1 58 = s.1 58 + 1 → F 1 w) : cm iv L h0 d 123 [vr 307, vi b] s (qi F) := by
  obtain ⟨m1, m2⟩ := hX.bc
  have e57 : s.1 57 = most := (hS.1.1 57 (by decide)).trans hX.2.1
  obtain ⟨a1, a2, a3, a4, a5⟩ := id hS
  have stop : WP B C 0 0 s st (rst st 4 b) (-9) (us (us s 59 4) 60 b) := ⟨⟨eqx_us (eqx_us eqx.rf (by decide)) (by decide), fun _ _ _ _ => rfl, fun _ _ => rfl⟩, ⟨Int.le_refl _, by show s.1 52 ≤ s.1 52 + 2 * (st - st) + 0; omega⟩, ⟨Int.le_refl _, by show s.1 54 ≤ s.1 54 + 2 * (st - st) + 0; omega⟩, ⟨a2.1, rfl, rfl, rfl⟩, fun q => by cases q⟩
  refine B123 ⟨fun q => H0 (Or.inr (by omega)) _ stop, fun q => ⟨fun q2 => ⟨by omega, by omega, ?_⟩, fun q2 => H0 (Or.inl (by omega)) _ stop⟩⟩
  obtain ⟨n', rfl⟩ : ∃ k, n = k + 1 := ⟨n - 1, by omega⟩
  refine H1 n' rfl (by omega) _ ⟨?_, ⟨?_, ?_, a2.2.2.1, a2.2.2.2⟩, by omega, ⟨a4.1, ?_⟩, a5.1, ?_⟩ (eqx_us (eqx_us eqx.rf (by decide)) (by decide)) ?_ rfl
  · exact eqx_us (eqx_us a1 (by decide)) (by decide)
  · show s.1 56 + 1 = st + 1; omega
  · show s.1 58 + 1 = 60 - (n' : Int); omega
  · show s.1 52 + 2 * (most - (st + 1)) + (k + 2) ≤ 1300 * σ.1 55 + 610; omega
  · show s.1 54 + 2 * (most - (st + 1)) + (k + 2) ≤ 640 * σ.1 55 + 610; omega
  · show s.1 56 + 1 = st + 1; omega
/-- behind a begun step: a level less is open -/
theorem lev_ok {s1 w : SM} {R : RS} {r kv ke : Int} (he : eqx [56, 58] [] s s1) (h58 : s1.1 58 = s.1 58 + 1) (hw : WP B C kv ke s1 (st + 1) R r w) (hkv : kv ≤ 2 ∧ ke ≤ 2) : WP B C (kv - 2) (ke - 2) s st R r (us w 58 (w.1 58 - 1)) := by
  obtain ⟨⟨b1, b6, b7⟩, b2, b3, b4, b5⟩ := hw
  have e52 : s1.1 52 = s.1 52 := he.1 52 (by decide)
  have e54 : s1.1 54 = s.1 54 := he.1 54 (by decide)
  refine ⟨⟨eqx_us ((he.up (by decide) (by decide)).tr b1) (by decide), fun f v hf hv => ?_, fun j hj => ?_⟩, ⟨by show s.1 52 ≤ w.1 52; omega, by show w.1 52 ≤ _; omega⟩, ⟨by show s.1 54 ≤ w.1 54; omega, by show w.1 54 ≤ _; omega⟩, ⟨b4.1, ?_, b4.2.2.1, b4.2.2.2⟩, fun q => ?_⟩
  · show w.2 f v = s.2 f v
    rw [b6 f v hf (by rw [e52]; exact hv), he.2 f (by simp)]
  · show w.2 53 j = s.2 53 j
    rw [b7 j (by rw [e54]; exact hj), he.2 53 (by simp)]
  · show w.1 58 - 1 = s.1 58
    rw [b4.2.1, h58]; omega
  · exact VR_k (b5 q) ⟨fun _ _ _ _ _ => rfl, fun _ _ _ => rfl⟩ (Int.le_refl _) (Int.le_refl _)
theorem WCO_all (hX : WCX σ t most B C) : ∀ n : Nat, n ≤ 60 → WCO iv L h0 σ t most B C n := by
  intro n
  induction n with
  | zero =>
    intro _ b e st E s hb hE hV hc he hS
    show cm iv L h0 (7 + 1) 126 [vr 307, vi b, vi e] s _
    refine B126 (beg_ok hX hS (by decide) (fun _ w hw => ⟨fun q => absurd rfl q, fun _ => hw⟩) (fun n' h => by omega))
  | succ n ih =>
    intro hn b e st E s hb hE hV hc he hS
    obtain ⟨m1, m2⟩ := hX.bc
    obtain ⟨⟨hT, hN, hR⟩, -⟩ := id hX
    have hbl := hT.lt hb
    have ev : ∀ R : RS, R = (EV σ most (n + 1)).1 b E st → R = if st = most then rst st 4 b else frmE (σ.2 21) b (wplE (σ.2 9) (σ.2 10) (σ.2 14) (σ.2 21) (EV σ most n).1 b E (st + 1)) := fun R h => h
    have ow := EV_okw hX n
    rw [show 3 * (n + 1) + 8 = (3 * n + 10) + 1 by omega]
    refine B126 (beg_ok hX hS hn (fun q w hw => ⟨fun c => absurd rfl c, fun _ => ?_⟩) (fun n' h hst s1 S1 he1 h56 h58 => ⟨fun _ => ?_, fun c => by cases c⟩))
    · rw [ev _ rfl, if_pos (q.resolve_left (by omega))]
      exact hw
    · obtain rfl : n = n' := by omega
      have h52 : s1.1 52 = s.1 52 := he1.1 52 (by decide)
      have h54 : s1.1 54 = s.1 54 := he1.1 54 (by decide)
      have he' : VR s1 B (s1.1 52) C (s1.1 54) E e := VR_k he ⟨fun f _ _ _ _ => by rw [he1.2 f (by simp)], fun _ _ _ => by rw [he1.2 53 (by simp)]⟩ (by omega) (by omega)
      have hRO : RO σ t most (st + 1) (wplE (σ.2 9) (σ.2 10) (σ.2 14) (σ.2 21) (EV σ most n).1 b E (st + 1)) := work_ok1 hT hN hR (most := most) (fun b E st h1 h2 h3 h4 h5 => ow b E st h1 h2 h3 h4 h5) hb hE hV hc S1.2.2.1.2
      refine plain_ok hX (ih (by omega)) (S1.up (by decide)) hb ⟨hE, hV, hc⟩ he' (fun r w hw => ?_)
      have evn := ev _ rfl
      rw [if_neg hst] at evn
      have w58 := hw.2.2.2.1.2.1
      have w59 := hw.2.2.2.1.2.2.1
      have S58 := hS.2.1.2.1
      have w21 : w.2 21 = σ.2 21 := (hw.1.1.2 21 (by decide)).trans ((he1.2 21 (by decide)).trans (hS.row (by decide)))
      have lv := lev_ok he1 h58 hw (by decide)
      rw [w21]
      refine ⟨by omega, fun q => ⟨by omega, fun q2 => ?_, fun q2 => ?_⟩, fun q => ?_⟩
      · rw [evn]
        unfold frmE
        rw [if_neg (by omega)]
        exact lv.up (by decide) (by decide)
      · rw [evn]
        unfold frmE
        rw [if_pos q2]
        have g0 : (wplE (σ.2 9) (σ.2 10) (σ.2 14) (σ.2 21) (EV σ most n).1 b E (st + 1)).2.1 = 0 := by have := hRO.2.1; omega
        rw [bnR_0 g0]
        obtain ⟨x1, x2, x3⟩ := hRO.2.2 g0
        have vx := hw.2.2.2.2 g0
        -- as a state in the midst of the level above
        have S3 : WS σ most B C (n + 1) (wplE (σ.2 9) (σ.2 10) (σ.2 14) (σ.2 21) (EV σ most n).1 b E (st + 1)).1 1 (us w 58 (w.1 58 - 1)) := by
          have := hS.nx (k' := 1) lv ⟨by have := hRO.1; omega, hRO.1.2⟩ ⟨g0, x1⟩ (by decide)
          exact this
        refine wp_new (V := .length _) hX S3 (by decide) (fun q => by omega) (fun v hv hkp hlo h54 => ⟨r, vcel hv hlo (by rw [if_pos (Or.inl (by decide))]), VR_k vx ?_ (by show w.1 52 ≤ v.1 52; have : (us w 58 (w.1 58 - 1)).1 52 = w.1 52 := rfl; omega) (by show w.1 54 ≤ v.1 54; have : (us w 58 (w.1 58 - 1)).1 54 = w.1 54 := rfl; omega)⟩) (fun v hv => (lv.tr hv).up (by decide) (by decide))
        exact hkp
      · rw [evn]
        have gn : (wplE (σ.2 9) (σ.2 10) (σ.2 14) (σ.2 21) (EV σ most n).1 b E (st + 1)).2.1 ≠ 0 := by omega
        have : frmE (σ.2 21) b (wplE (σ.2 9) (σ.2 10) (σ.2 14) (σ.2 21) (EV σ most n).1 b E (st + 1)) = wplE (σ.2 9) (σ.2 10) (σ.2 14) (σ.2 21) (EV σ most n).1 b E (st + 1) := by
          unfold frmE
          split
          · exact bnR_n gn
          · rfl
        rw [this]
        exact (lv.up (by decide) (by decide)).st gn
end
end
section
/-! The reference goes on with values as evw says. -/
def OCA (iv : List (Int × Int)) (L : Nat) (h0 : MH) (σ : SM) (t : Term) (most lo hi elo ehi : Int) (n : Nat) : Prop := ∀ (B C v st : Int) (V : Term) (s : SM), WCX σ t most B C → isV V = true → VO σ t V → VR s lo hi elo ehi V v → WS σ most B C n st 0 s → cm iv L h0 (3 * n + 8) 132 [vr 307, vi v] s (qi fun r w => WP B C 0 0 s st ((EV σ most n).2 V st) r w ∧ (((EV σ most n).2 V st).2.1 ≠ 0 → r = -9))
/-- all but the last m letters -/
def tkE : Nat → Term → Term
  | 0, E => E
  | m + 1, .mul r _ => tkE m r
  | _, _ => .null
theorem tkE_is : ∀ (m x : Nat) (E : Term), isE (x + m) E → isE x (tkE m E) := by
  intro m
  induction m with
  | zero => intro x E h; exact h
  | succ m ih =>
    intro x E h
    rw [show x + (m + 1) = (x + m) + 1 by omega] at h
    cases E with
    | mul r y => exact ih x r h
    | _ => exact h.elim
theorem tkE_s : ∀ (m x : Nat) (E : Term), isE (x + (m + 1)) E → tkE m E = .mul (tkE (m + 1) E) (lkE E x) := by
  intro m
  induction m with
  | zero =>
    intro x E h
    cases E with
    | mul r y =>
      have hl := isE_len x r h
      show Term.mul r y = .mul r (if (mlen r : Int) = x then y else lkE r x)
      rw [if_pos (by omega)]
    | _ => exact h.elim
  | succ m ih =>
    intro x E h
    rw [show x + (m + 1 + 1) = (x + (m + 1)) + 1 by omega] at h
    cases E with
    | mul r y =>
      have hl := isE_len _ r h
      have := ih x r h
      show tkE m r = .mul (tkE (m + 1) r) (if (mlen r : Int) = x then y else lkE r x)
      rw [if_neg (by omega)]
      exact this
    | _ => exact h.elim
theorem stopE {o : EO} {st : Int} : ∀ (m : Nat) (E : Term), (envE o (tkE m E) st).2.1 ≠ 0 → envE o E st = envE o (tkE m E) st := by
  intro m
  induction m with
  | zero => intro E h; rfl
  | succ m ih =>
    intro E h
    cases E with
    | mul r y =>
      have := ih r h
      show bnR (envE o r st) _ = _
      rw [this]
      exact bnR_n (r := envE o (tkE m r) st) h
    | _ => exact absurd rfl h
theorem VN_tk {s : SM} {t : Term} {g : Int → Int} : ∀ (m : Nat) (E : Term), VG s t g E → VG s t g (tkE m E) := by
  intro m
  induction m with
  | zero => intro E h; exact h
  | succ m ih =>
    intro E h
    cases E with
    | mul r y => exact ih r h.1
    | _ => trivial
section
variable {iv : List (Int × Int)} {L : Nat} {h0 : MH} {σ s : SM} {t : Term} {d n : Nat} {most B C st k lo hi elo ehi : Int}
theorem WCX.at {B' C' : Int} (h : WCX σ t most B C) (hB : B ≤ B' ∧ C ≤ C') : WCX σ t most B' C' := ⟨h.1, h.2.1, h.2.2.1, ⟨h.2.2.2.1.1, by have := h.2.2.2.1; omega, by have := h.2.2.2.1; omega⟩, h.2.2.2.2⟩
theorem WS.at {B' C' : Int} (h : WS σ most B C n st k s) (hB : B' ≤ s.1 52 ∧ C' ≤ s.1 54) : WS σ most B' C' n st k s := ⟨h.1, h.2.1, h.2.2.1, ⟨hB.1, h.2.2.2.1.2⟩, hB.2, h.2.2.2.2.2⟩
/-- cells of the other half stay -/
theorem old_k {w : SM} (hH : OLDH σ lo hi elo ehi) (hX : WCX σ t most B C) (hS : WS σ most B C n st k s) (hf : FRM s w) (hw : w.1 52 ≤ 1300 * σ.1 55 + 1300 ∧ w.1 54 ≤ 640 * σ.1 55 + 640) : KEEP s w lo hi elo ehi := by
  obtain ⟨m1, m2⟩ := hX.bc
  obtain ⟨a1, a2, a3, a4, a5⟩ := hS
  obtain ⟨b1, b2, b3⟩ := hH
  exact hf.keep (by omega) (by omega)
theorem WP.top {kv ke r : Int} {R : RS} {w : SM} (hX : WCX σ t most B C) (hS : WS σ most B C n st k s) (hw : WP B C kv ke s st R r w) (hR : st ≤ R.1 ∧ R.1 ≤ most) (hk : -600 ≤ k ∧ kv ≤ 20 ∧ ke ≤ 20) (hkk : 0 ≤ k) : w.1 52 ≤ 1300 * σ.1 55 + 1300 ∧ w.1 54 ≤ 640 * σ.1 55 + 640 := by
  obtain ⟨m1, m2⟩ := hX.bc
  obtain ⟨a1, a2, a3, a4, a5⟩ := hS
  obtain ⟨b1, b2, b3, b4, b5⟩ := hw
  omega
theorem envOn_ok {e : Int} {E : Term} {F : Int → SM → Prop} (hX : WCX σ t most B C) (hFN : FN σ t) (hH : OLDH σ lo hi elo ehi) (hO : OCA iv L h0 σ t most lo hi elo ehi n) (hS : WS σ most B C n st 2 s) (hE : isE 26 E) (hV : VO σ t E) (he : VR s lo hi elo ehi E e) (hF : ∀ r w, WP B C 0 1 s st (envE (EV σ most n).2 E st) r w → F r w) : cm iv L h0 (3 * n + 9) 131 [vr 307, vi e] s (qi F) := by
  obtain ⟨m1, m2⟩ := hX.bc
  obtain ⟨a1, a2, a3, a4, a5⟩ := id hS
  obtain ⟨q1, q2, q3⟩ := id hH
  obtain ⟨c1, c2⟩ := (VR_E 26 E e hE (Nat.le_refl _)).mp he
  obtain ⟨ow, oo⟩ := EV_ok hX hFN n
  have key : ∀ (m x : Nat) (w : SM), x + m = 26 → ∀ R : RS, R = envE (EV σ most n).2 (tkE m E) st → R.2.1 = 0 → FRM s w → (s.1 52 ≤ w.1 52 ∧ w.1 52 ≤ s.1 52 + 2 * (R.1 - st)) → (s.1 54 + 1 ≤ w.1 54 ∧ w.1 54 ≤ s.1 54 + 1 + 2 * (R.1 - st)) → (w.1 56 = R.1 ∧ w.1 58 = s.1 58 ∧ w.1 59 = 0 ∧ w.1 60 = -9) → (∀ y : Int, 0 ≤ y → y < x → EL w (s.1 52) (w.1 52) (s.1 54 + 1) (w.1 54) R.2.2.2 (s.1 54) y) → (∀ y : Int, (x : Int) ≤ y → y < 26 → w.2 53 (26 * s.1 54 + y) = -9) → wm iv L h0 (3 * n + 9) 131 9 [lr 307, li e, li (s.1 54), li x] [] w (qi F) := by
    intro m
    induction m with
    | zero =>
      intro x w hx R hR hR0 w1 w2 w3 w4 w5 w6
      obtain rfl : x = 26 := by omega
      have hRE := env_ok oo 26 E st hE hV a3.2
      rw [show envE (EV σ most n).2 E st = R from hR.symm] at hRE
      obtain ⟨e1, e2, e3⟩ := hRE
      obtain ⟨e4, e5, e6, e7⟩ := e3 hR0
      refine B131_9 ⟨fun _ => hF _ w ?_, fun q => by omega⟩
      rw [show envE (EV σ most n).2 E st = R from hR.symm]
      refine ⟨w1, ⟨w2.1, by omega⟩, ⟨by omega, by omega⟩, ⟨w4.1, w4.2.1, w4.2.2.1.trans hR0.symm, w4.2.2.2.trans e4.symm⟩, fun _ => (VR_E 26 _ _ e5 (Nat.le_refl _)).mpr ⟨by omega, fun y y0 y1 => ?_⟩⟩
      exact (w5 y y0 (by omega)).imp id (fun q => ⟨q.1, VR_g q.2 ⟨fun _ _ _ _ _ => rfl, fun _ _ _ => rfl⟩ (by omega) (Int.le_refl _) (by omega) (Int.le_refl _)⟩)
    | succ m ih =>
      intro x w hx R hR hR0 w1 w2 w3 w4 w5 w6
      have hE' : isE (x + (m + 1)) E := by rw [hx]; exact hE
      have tk := tkE_s m x E hE'
      have hP := tkE_is (m + 1) x E hE'
      have hRE := env_ok oo x (tkE (m + 1) E) st hP (VN_tk _ _ hV) a3.2
      rw [← hR] at hRE
      obtain ⟨e1, e2, e3⟩ := hRE
      obtain ⟨e4, e5, e6, e7⟩ := e3 hR0
      have hl5 := isE_len x _ e5
      have nxt : envE (EV σ most n).2 (tkE m E) st = bnR (optE (fun x => (EV σ most n).2 x R.1) R.1 (lkE E x)) (fun st y => rok st (.mul R.2.2.2 y)) := by
        rw [tk]
        show bnR (envE (EV σ most n).2 (tkE (m + 1) E) st) _ = _
        rw [← hR, bnR_0 hR0]
      have hkp := w1.keep (lo := lo) (hi := hi) (elo := elo) (ehi := ehi) (by omega) (by omega)
      have e53 : w.2 53 (26 * e + x) = s.2 53 (26 * e + x) := hkp.2 _ (by omega) (by omega)
      refine B131_9 ⟨fun q => by omega, fun _ => ⟨fun q => absurd w4.2.2.1 q, fun _ => ⟨by omega, by omega, by omega, by omega, by omega, ?_⟩⟩⟩
      rw [e53]
      have elk : ∀ (z y : Int) (V : Term), lkE (.mul R.2.2.2 V) y = if (x : Int) = y then V else lkE R.2.2.2 y := fun z y V => by
        show (if (mlen R.2.2.2 : Int) = y then V else lkE R.2.2.2 y) = _
        rw [hl5]
      rcases c2 x (by omega) (by omega) with ⟨l1, l2⟩ | ⟨l1, l2⟩
      · refine ⟨fun q => absurd l2 q, fun _ => ⟨by omega, by omega, ?_⟩⟩
        rw [l1, optE_n, bnR_0 rfl] at nxt
        have := ih (x + 1) (ua w 53 (26 * s.1 54 + x) (-9)) (by omega) (rok R.1 (.mul R.2.2.2 .null)) nxt.symm rfl ⟨w1.1.tr (eqx_ua eqx.rf (by decide)), fun f v hf hv => by rw [ua_2, if_neg (by omega)]; exact w1.2.1 f v hf hv, fun j hj => by
          have hj : j < 26 * s.1 54 ∨ 26 * w.1 54 ≤ j := hj
          rw [ua_2, if_neg (by omega)]; exact w1.2.2 j hj⟩ w2 w3 w4 (fun y y0 y1 => ?_) (fun y y0 y1 => ?_)
        · rw [show ((x + 1 : Nat) : Int) = (x : Int) + 1 by omega] at this
          exact this
        · show EL _ _ _ _ _ (.mul R.2.2.2 .null) _ _
          unfold EL
          rw [elk 0 y .null, ua_2]
          by_cases q : y = x
          · rw [if_pos q.symm, if_pos (by rw [q]; exact ⟨rfl, rfl⟩)]; exact Or.inl ⟨rfl, rfl⟩
          · rw [if_neg (Ne.symm q), if_neg (by omega)]
            exact (w5 y y0 (by omega)).imp id (fun q => ⟨q.1, VR_k q.2 ⟨fun f _ _ _ _ => by rw [ua_2, if_neg (by omega)], fun j j0 j1 => by rw [ua_2, if_neg (by omega)]⟩ (Int.le_refl _) (Int.le_refl _)⟩)
        · rw [ua_2, if_neg (by omega)]
          exact w6 y (by omega) y1
      · have hv := VN_lk E x hV l1
        have v9 : s.2 53 (26 * e + x) ≠ -9 := by have := (VR_kind hv.1 l2).2.1; omega
        refine ⟨fun _ => ?_, fun q => absurd q v9⟩
        rw [optE_v l1] at nxt
        obtain ⟨o1, o2, o3⟩ := oo (lkE E x) R.1 hv.1 hv.2 e1.2
        have Sw : WS σ most (w.1 52) (w.1 54) n R.1 0 w := ⟨a1.tr w1.1, ⟨w4.1, by rw [w4.2.1]; exact a2.2.1, w4.2.2.1, w4.2.2.2⟩, by omega, ⟨Int.le_refl _, by omega⟩, Int.le_refl _, by omega⟩
        refine wci_mono (hO (w.1 52) (w.1 54) _ R.1 (lkE E x) w (hX.at (by omega)) hv.1 hv.2 (VR_k l2 hkp (Int.le_refl _) (Int.le_refl _)) Sw) (by omega) ?_
        rintro r u ⟨hu, hu9⟩
        obtain ⟨u1, u2, u3, u4, u5⟩ := hu
        have fsu : FRM s u := w1.tr u1 ⟨w2.1, u2.1⟩ ⟨by omega, u3.1⟩
        have fsu' : FRM s (ua u 53 (26 * s.1 54 + x) r) := ⟨fsu.1.tr (eqx_ua eqx.rf (by decide)), fun f v hf hv => by rw [ua_2, if_neg (by omega)]; exact fsu.2.1 f v hf hv, fun j hj => by
          have hj : j < 26 * s.1 54 ∨ 26 * u.1 54 ≤ j := hj
          rw [ua_2, if_neg (by omega)]; exact fsu.2.2 j hj⟩
        refine ⟨by omega, by omega, ?_⟩
        by_cases g0 : ((EV σ most n).2 (lkE E x) R.1).2.1 = 0
        · obtain ⟨x1, x2, x3⟩ := o3 g0
          rw [bnR_0 g0] at nxt
          have hv2 : VR u (w.1 52) (u.1 52) (w.1 54) (u.1 54) ((EV σ most n).2 (lkE E x) R.1).2.2.2 r := u5 g0
          have kk : ∀ a b, s.1 54 + 1 ≤ b → KEEP u (ua u 53 (26 * s.1 54 + x) r) a (u.1 52) b (u.1 54) := fun a b hb => ⟨fun f _ _ _ _ => by rw [ua_2, if_neg (by omega)], fun j j0 j1 => by rw [ua_2, if_neg (by omega)]⟩
          have kwu := u1.keep (lo := s.1 52) (elo := s.1 54 + 1) (Or.inl (Int.le_refl _)) (Or.inl (Int.le_refl _))
          have := ih (x + 1) (ua u 53 (26 * s.1 54 + x) r) (by omega) _ nxt.symm rfl fsu' ⟨by show s.1 52 ≤ u.1 52; omega, by show u.1 52 ≤ s.1 52 + 2 * (((EV σ most n).2 (lkE E x) R.1).1 - st); omega⟩ ⟨by show s.1 54 + 1 ≤ u.1 54; omega, by show u.1 54 ≤ s.1 54 + 1 + 2 * (((EV σ most n).2 (lkE E x) R.1).1 - st); omega⟩ ⟨u4.1, u4.2.1.trans w4.2.1, u4.2.2.1.trans g0, u4.2.2.2.trans x1⟩ (fun y y0 y1 => ?_) (fun y y0 y1 => ?_)
          · rw [show ((x + 1 : Nat) : Int) = (x : Int) + 1 by omega] at this
            exact this
          · show EL _ _ _ _ _ (.mul R.2.2.2 ((EV σ most n).2 (lkE E x) R.1).2.2.2) _ _
            unfold EL
            rw [elk 0 y, ua_2]
            by_cases q : y = x
            · rw [if_pos q.symm, if_pos (by rw [q]; exact ⟨rfl, rfl⟩)]
              exact Or.inr ⟨isV_nn x2, VR_g hv2 (kk _ _ (by omega)) w2.1 (Int.le_refl _) (by omega) (Int.le_refl _)⟩
            · rw [if_neg (Ne.symm q), if_neg (by omega), u1.2.2 _ (by omega)]
              exact (w5 y y0 (by omega)).imp id (fun q => ⟨q.1, VR_k (VR_k q.2 kwu u2.1 u3.1) (kk _ _ (Int.le_refl _)) (Int.le_refl _) (Int.le_refl _)⟩)
          · rw [ua_2, if_neg (by omega), u1.2.2 _ (by omega)]
            exact w6 y (by omega) y1
        · rw [bnR_n g0] at nxt
          have sE := stopE m E (by rw [nxt]; exact g0)
          have gp : 0 < ((EV σ most n).2 (lkE E x) R.1).2.1 := by have := o2.resolve_left g0; omega
          have ul : (ua u 53 (26 * s.1 54 + x) r).1 59 = ((EV σ most n).2 (lkE E x) R.1).2.1 := u4.2.2.1
          have fin : F (s.1 54) (ua u 53 (26 * s.1 54 + x) r) := by
            refine hF _ _ ?_
            rw [sE, nxt]
            refine ⟨fsu', ⟨by show s.1 52 ≤ u.1 52; omega, by show u.1 52 ≤ _; omega⟩, ⟨by show s.1 54 ≤ u.1 54; omega, by show u.1 54 ≤ _; omega⟩, ⟨u4.1, u4.2.1.trans w4.2.1, u4.2.2⟩, fun c => absurd c g0⟩
          exact B131_9 ⟨fun _ => fin, fun _ => ⟨fun _ => fin, fun c => by rw [ul] at c; exact absurd c g0⟩⟩
  rw [show 3 * n + 9 = (3 * n + 8) + 1 by omega]
  refine B131 (newEnv_ok (by omega) (Or.inl rfl) (fun w hw => ?_))
  obtain ⟨w1, w2, w3, w4⟩ := hw
  have w52 : w.1 52 = s.1 52 := w1.1 52 (by decide)
  refine key 26 0 w (by decide) (rok st .null) ?_ rfl ⟨w1.up (by decide) (by decide), fun f v hf _ => by rw [w1.2 f (by simp; omega)], fun j hj => w3 j (by omega)⟩ ⟨by omega, by show w.1 52 ≤ s.1 52 + 2 * (st - st); omega⟩ ⟨by omega, by show w.1 54 ≤ s.1 54 + 1 + 2 * (st - st); omega⟩ ⟨by rw [w1.1 56 (by decide)]; exact a2.1, w1.1 58 (by decide), by rw [w1.1 59 (by decide)]; exact a2.2.2.1, by rw [w1.1 60 (by decide)]; exact a2.2.2.2⟩ (fun y y0 y1 => by omega) (fun y y0 y1 => ?_)
  · have := tkE_is 26 0 E hE
    cases h : tkE 26 E with
    | null => rfl
    | _ => rw [h] at this; exact this.elim
  · have := w4 y (by omega) y1
    rw [if_pos rfl] at this
    exact this
end
end
section
/-! The reference goes on with every value as evw says. -/
section
variable {iv : List (Int × Int)} {L : Nat} {h0 : MH} {σ s : SM} {t : Term} {d n : Nat} {most B C st k lo hi elo ehi : Int}
/-- a value that nobody will see -/
theorem junk_ok {w : SM} {R : RS} {r kv ke kk nn a b e : Int} {F : Int → SM → Prop} (hX : WCX σ t most B C) (hS : WS σ most B C n st k s) (hk : 0 ≤ k) (hw : WP B C kv ke s st R r w) (hR : R.2.1 ≠ 0 ∧ st ≤ R.1 ∧ R.1 ≤ most) (hkv : kv ≤ 20) (hab : kk = 3 → a ≠ -9 → b ≠ -9 → (0 ≤ a ∧ a < 2600) ∧ 0 ≤ b ∧ b < 2600) (hF : ∀ r' w', WP B C (kv + 1) ke s st R r' w' → F r' w') : cm iv L h0 d 121 [vr 307, vi kk, vi nn, vi a, vi b, vi e] w (qi F) := by
  obtain ⟨m1, m2⟩ := hX.bc
  obtain ⟨a1, a2, a3, a4, a5⟩ := hS
  obtain ⟨b1, b2, b3, b4, b5⟩ := hw
  refine val_ok (by omega) hab (fun v hv => hF _ v ?_)
  obtain ⟨v1, v2, v3, v4⟩ := hv
  have v54 : v.1 54 = w.1 54 := v1.1 54 (by decide)
  refine ⟨b1.tr ⟨v1.up (by decide) (by decide), fun f x hf hx => v3 f x hf (by omega), fun j _ => by rw [v1.2 53 (by decide)]⟩ ⟨b2.1, by omega⟩ ⟨b3.1, by omega⟩, ⟨by omega, by omega⟩, ⟨by omega, by omega⟩, ⟨?_, ?_, ?_, ?_⟩, fun q => absurd q hR.1⟩
  · rw [v1.1 56 (by decide)]; exact b4.1
  · rw [v1.1 58 (by decide)]; exact b4.2.1
  · rw [v1.1 59 (by decide)]; exact b4.2.2.1
  · rw [v1.1 60 (by decide)]; exact b4.2.2.2
theorem bnR_rok {st' : Int} {v' : Term} {f : Int → Term → RS} : bnR (rok st' v') f = f st' v' := rfl
theorem onA (hX : WCX σ t most B C) (hO : OCA iv L h0 σ t most lo hi elo ehi n) : ∀ (A : Term) (a st' : Int) (w : SM) (G : Int → SM → Prop), isV A = true → VO σ t A → VR w lo hi elo ehi A a → WS σ most B C n st' 0 w → (∀ r u, WP B C 0 0 w st' ((EV σ most n).2 A st') r u → (((EV σ most n).2 A st').2.1 ≠ 0 → r = -9) → G r u) → cm iv L h0 (3 * n + 9) 132 [vr 307, vi a] w (qi G) := fun A a st' w G h1 h2 h3 h4 h5 => wci_mono (hO B C a st' A w hX h1 h2 h3 h4) (by omega) (fun r u hu => h5 r u hu.1 hu.2)
theorem onp_int {v : Int} {z : Int32} {F : Int → SM → Prop} (hX : WCX σ t most B C) (hFN : FN σ t) (hH : OLDH σ lo hi elo ehi) (hW : WCO iv L h0 σ t most B C n) (hO : OCA iv L h0 σ t most lo hi elo ehi n) (hS : WS σ most B C n st 2 s) (hv : isV (.int z) = true) (hV : VO σ t (.int z)) (he : VR s lo hi elo ehi (.int z) v) (hF : ∀ r w, WP B C 2 2 s st (oplE (σ.2 9) (σ.2 10) (σ.2 14) (σ.2 42) (EV σ most n).1 (EV σ most n).2 (.int z) st) r w → F r w) : cm iv L h0 (3 * n + 10) 133 [vr 307, vi v] s (qi F) := by
  obtain ⟨m1, m2⟩ := hX.bc
  obtain ⟨⟨hT, hN, hR⟩, -⟩ := id hX
  obtain ⟨q1, q2, q3⟩ := id hH
  obtain ⟨k1, k2, k3⟩ := VR_kind hv he
  obtain ⟨ow, oo⟩ := EV_ok hX hFN n
  have hst := hS.2.2.1
  refine B133 ⟨by omega, ?_⟩
  have k1 : s.2 46 v = 0 := k1
  refine ⟨fun q => by omega, fun q => by omega, fun q => by omega, fun _ => ?_, fun q => by omega, fun q => by omega⟩
  obtain ⟨c0, c1, c2, c3, c4, c5, c6⟩ := he
  rw [c1, c2]
  refine wp_new (V := .int z) hX hS (by decide) (fun q => by omega) (fun w hw hkp hlo h54 => vcel hw hlo (by rw [if_neg (by omega)])) (fun w hw => hF _ w (hw.up (by decide) (by decide)))
theorem onp_arg {v : Int} {z : Nat} {F : Int → SM → Prop} (hX : WCX σ t most B C) (hFN : FN σ t) (hH : OLDH σ lo hi elo ehi) (hW : WCO iv L h0 σ t most B C n) (hO : OCA iv L h0 σ t most lo hi elo ehi n) (hS : WS σ most B C n st 2 s) (hv : isV (.arg z) = true) (hV : VO σ t (.arg z)) (he : VR s lo hi elo ehi (.arg z) v) (hF : ∀ r w, WP B C 2 2 s st (oplE (σ.2 9) (σ.2 10) (σ.2 14) (σ.2 42) (EV σ most n).1 (EV σ most n).2 (.arg z) st) r w → F r w) : cm iv L h0 (3 * n + 10) 133 [vr 307, vi v] s (qi F) := by
  obtain ⟨m1, m2⟩ := hX.bc
  obtain ⟨⟨hT, hN, hR⟩, -⟩ := id hX
  obtain ⟨q1, q2, q3⟩ := id hH
  obtain ⟨k1, k2, k3⟩ := VR_kind hv he
  obtain ⟨ow, oo⟩ := EV_ok hX hFN n
  have hst := hS.2.2.1
  refine B133 ⟨by omega, ?_⟩
  have k1 : s.2 46 v = 1 := k1
  refine ⟨fun q => by omega, fun q => by omega, fun q => by omega, fun _ => ?_, fun q => by omega, fun q => by omega⟩
  obtain ⟨c0, c1, c2, c3, c4, c5, c6⟩ := he
  rw [c1, c2]
  refine wp_new (V := .arg z) hX hS (by decide) (fun q => by omega) (fun w hw hkp hlo h54 => vcel hw hlo (by rw [if_neg (by omega)])) (fun w hw => hF _ w (hw.up (by decide) (by decide)))
theorem onp_index {v : Int} {z : Nat} {F : Int → SM → Prop} (hX : WCX σ t most B C) (hFN : FN σ t) (hH : OLDH σ lo hi elo ehi) (hW : WCO iv L h0 σ t most B C n) (hO : OCA iv L h0 σ t most lo hi elo ehi n) (hS : WS σ most B C n st 2 s) (hv : isV (.index z) = true) (hV : VO σ t (.index z)) (he : VR s lo hi elo ehi (.index z) v) (hF : ∀ r w, WP B C 2 2 s st (oplE (σ.2 9) (σ.2 10) (σ.2 14) (σ.2 42) (EV σ most n).1 (EV σ most n).2 (.index z) st) r w → F r w) : cm iv L h0 (3 * n + 10) 133 [vr 307, vi v] s (qi F) := by
  obtain ⟨m1, m2⟩ := hX.bc
  obtain ⟨⟨hT, hN, hR⟩, -⟩ := id hX
  obtain ⟨q1, q2, q3⟩ := id hH
  obtain ⟨k1, k2, k3⟩ := VR_kind hv he
  obtain ⟨ow, oo⟩ := EV_ok hX hFN n
  have hst := hS.2.2.1
  refine B133 ⟨by omega, ?_⟩
  have k1 : s.2 46 v = 5 := k1
  refine ⟨fun q => by omega, fun q => by omega, fun q => by omega, fun _ => ?_, fun q => by omega, fun q => by omega⟩
  obtain ⟨c0, c1, c2, c3, c4, c5, c6⟩ := he
  rw [c1, c2]
  refine wp_new (V := .index z) hX hS (by decide) (fun q => by omega) (fun w hw hkp hlo h54 => vcel hw hlo (by rw [if_pos (by omega)])) (fun w hw => hF _ w (hw.up (by decide) (by decide)))
theorem onp_add {v : Int} {A A' : Term} {F : Int → SM → Prop} (hX : WCX σ t most B C) (hFN : FN σ t) (hH : OLDH σ lo hi elo ehi) (hW : WCO iv L h0 σ t most B C n) (hO : OCA iv L h0 σ t most lo hi elo ehi n) (hS : WS σ most B C n st 2 s) (hv : isV (.add A A') = true) (hV : VO σ t (.add A A')) (he : VR s lo hi elo ehi (.add A A') v) (hF : ∀ r w, WP B C 2 2 s st (oplE (σ.2 9) (σ.2 10) (σ.2 14) (σ.2 42) (EV σ most n).1 (EV σ most n).2 (.add A A') st) r w → F r w) : cm iv L h0 (3 * n + 10) 133 [vr 307, vi v] s (qi F) := by
  obtain ⟨m1, m2⟩ := hX.bc
  obtain ⟨⟨hT, hN, hR⟩, -⟩ := id hX
  obtain ⟨q1, q2, q3⟩ := id hH
  obtain ⟨k1, k2, k3⟩ := VR_kind hv he
  obtain ⟨ow, oo⟩ := EV_ok hX hFN n
  have hst := hS.2.2.1
  refine B133 ⟨by omega, ?_⟩
  have k1 : s.2 46 v = 3 := k1
  refine ⟨fun q => by omega, fun _ => ?_, fun q => by omega, fun q => by omega, fun q => by omega, fun q => by omega⟩
  obtain ⟨a, a', ⟨c0, c1, c2, c3, c4, c5, c6⟩, v1, v2⟩ := he
  obtain ⟨⟨A1, A2⟩, A3, A4⟩ := hV
  obtain ⟨r1, r2, r3⟩ := oo A st A1 A2 hst.2
  have hF' : ∀ r w, WP B C 2 2 s st (bnR ((EV σ most n).2 A st) (fun st x => bnR ((EV σ most n).2 A' st) (fun st y => rok st (.add x y)))) r w → F r w := hF
  rw [c3]
  refine onA hX hO A a st s _ A1 A2 v1 (hS.up (by decide)) (fun r w hw hr9 => ?_)
  have w59 : w.1 59 = ((EV σ most n).2 A st).2.1 := hw.2.2.2.1.2.2.1
  have kp := old_k hH hX hS hw.1 (hw.top hX hS r1 (by decide) (by decide))
  rw [w59, kp.1 49 v (by decide) k2.1 k2.2, c4]
  by_cases g0 : ((EV σ most n).2 A st).2.1 = 0
  · obtain ⟨x1, x2, x3⟩ := r3 g0
    rw [bnR_0 g0] at hF'
    have S2 : WS σ most B C n ((EV σ most n).2 A st).1 2 w := hS.nx hw r1 ⟨g0, x1⟩ (by decide)
    obtain ⟨y1, y2, y3⟩ := oo A' ((EV σ most n).2 A st).1 A3 A4 r1.2
    have vx := hw.2.2.2.2 g0
    have kx := VR_kind x2 vx
    refine ⟨fun _ => onA hX hO A' a' _ w _ A3 A4 (VR_k v2 kp (Int.le_refl _) (Int.le_refl _)) (S2.up (by decide)) (fun r' u hu hu9 => ?_), fun c => by omega⟩
    by_cases g1 : ((EV σ most n).2 A' ((EV σ most n).2 A st).1).2.1 = 0
    · obtain ⟨z1, z2, z3⟩ := y3 g1
      rw [bnR_0 g1] at hF'
      have S3 := S2.nx (k' := 2) hu y1 ⟨g1, z1⟩ (by decide)
      have vy := hu.2.2.2.2 g1
      have ky := VR_kind z2 vy
      have hkp' := hu.1.keep (lo := B) (elo := C) (Or.inl (Int.le_refl _)) (Or.inl (Int.le_refl _))
      have vx' := VR_k vx hkp' hu.2.1.1 hu.2.2.1.1
      have kx' := VR_kind x2 vx'
      have s3 := S3.2.2.2.1
      have y12 := y1.2
      refine wp_new (V := .add _ _) hX S3 (by decide) (fun _ _ _ => by omega) (fun u2 hu2 hkp hlo h54 => ⟨r, r', vcel hu2 hlo ?_, VR_k vx' hkp (by omega) (by omega), VR_k vy hkp (by omega) (by omega)⟩) (fun u2 hu2 => hF' _ u2 (((hw.tr hu).tr hu2).up (by decide) (by decide)))
      rw [kx'.2.2, ky.2.2]
      have hr : r ≠ -9 := by omega
      have hr' : r' ≠ -9 := by omega
      cases hX1 : hsL ((EV σ most n).2 A st).2.2.2 <;> cases hY1 : hsL ((EV σ most n).2 A' ((EV σ most n).2 A st).1).2.2.2 <;> simp [hX1, hY1, hr, hr']
    · rw [bnR_n g1] at hF'
      have hr' := hu9 g1
      refine junk_ok hX hS (by decide) (hw.tr hu) ⟨g1, by omega, y1.2⟩ (by decide) (fun _ _ c => absurd hr' c) (fun r2 u2 hu2 => hF' r2 u2 (hu2.up (by decide) (by decide)))
  · rw [bnR_n g0] at hF'
    have gp : 0 < ((EV σ most n).2 A st).2.1 := by have := r2.resolve_left g0; omega
    exact ⟨fun c => by omega, fun _ => junk_ok hX hS (by decide) hw ⟨g0, r1⟩ (by decide) (fun _ _ c => absurd rfl c) (fun r2 u2 hu2 => hF' r2 u2 (hu2.up (by decide) (by decide)))⟩
theorem onp_length {v : Int} {A : Term} {F : Int → SM → Prop} (hX : WCX σ t most B C) (hFN : FN σ t) (hH : OLDH σ lo hi elo ehi) (hW : WCO iv L h0 σ t most B C n) (hO : OCA iv L h0 σ t most lo hi elo ehi n) (hS : WS σ most B C n st 2 s) (hv : isV (.length A) = true) (hV : VO σ t (.length A)) (he : VR s lo hi elo ehi (.length A) v) (hF : ∀ r w, WP B C 2 2 s st (oplE (σ.2 9) (σ.2 10) (σ.2 14) (σ.2 42) (EV σ most n).1 (EV σ most n).2 (.length A) st) r w → F r w) : cm iv L h0 (3 * n + 10) 133 [vr 307, vi v] s (qi F) := by
  obtain ⟨m1, m2⟩ := hX.bc
  obtain ⟨⟨hT, hN, hR⟩, -⟩ := id hX
  obtain ⟨q1, q2, q3⟩ := id hH
  obtain ⟨k1, k2, k3⟩ := VR_kind hv he
  obtain ⟨ow, oo⟩ := EV_ok hX hFN n
  have hst := hS.2.2.1
  refine B133 ⟨by omega, ?_⟩
  have k1 : s.2 46 v = 6 := k1
  refine ⟨fun q => by omega, fun q => by omega, fun q => by omega, fun q => by omega, fun _ => ?_, fun q => by omega⟩
  obtain ⟨a, ⟨c0, c1, c2, c3, c4, c5, c6⟩, v1⟩ := he
  obtain ⟨A1, A2⟩ := hV
  obtain ⟨r1, r2, r3⟩ := oo A st A1 A2 hst.2
  have hF' : ∀ r w, WP B C 2 2 s st (bnR ((EV σ most n).2 A st) (fun st x => rok st (.length x))) r w → F r w := hF
  rw [c3]
  refine onA hX hO A a st s _ A1 A2 v1 (hS.up (by decide)) (fun r w hw hr9 => ?_)
  by_cases g0 : ((EV σ most n).2 A st).2.1 = 0
  · obtain ⟨x1, x2, x3⟩ := r3 g0
    rw [bnR_0 g0] at hF'
    have S2 : WS σ most B C n ((EV σ most n).2 A st).1 2 w := hS.nx hw r1 ⟨g0, x1⟩ (by decide)
    exact wp_new (V := .length _) hX S2 (by decide) (fun q => by omega) (fun u hu hkp hlo h54 => ⟨r, vcel hu hlo (by rw [if_pos (by omega)]), VR_k (hw.2.2.2.2 g0) hkp (by omega) (by omega)⟩) (fun u hu => hF' _ u ((hw.tr hu).up (by decide) (by decide)))
  · rw [bnR_n g0] at hF'
    exact junk_ok hX hS (by decide) hw ⟨g0, r1⟩ (by decide) (fun q => by omega) (fun r' w' hw' => hF' r' w' (hw'.up (by decide) (by decide)))
theorem onp_sub {v : Int} {D : Nat} {E : Term} {F : Int → SM → Prop} (hX : WCX σ t most B C) (hFN : FN σ t) (hH : OLDH σ lo hi elo ehi) (hW : WCO iv L h0 σ t most B C n) (hO : OCA iv L h0 σ t most lo hi elo ehi n) (hS : WS σ most B C n st 2 s) (hv : isV (.sub (.index D) E) = true) (hV : VO σ t (.sub (.index D) E)) (he : VR s lo hi elo ehi (.sub (.index D) E) v) (hF : ∀ r w, WP B C 2 2 s st (oplE (σ.2 9) (σ.2 10) (σ.2 14) (σ.2 42) (EV σ most n).1 (EV σ most n).2 (.sub (.index D) E) st) r w → F r w) : cm iv L h0 (3 * n + 10) 133 [vr 307, vi v] s (qi F) := by
  obtain ⟨m1, m2⟩ := hX.bc
  obtain ⟨⟨hT, hN, hR⟩, -⟩ := id hX
  obtain ⟨q1, q2, q3⟩ := id hH
  obtain ⟨k1, k2, k3⟩ := VR_kind hv he
  obtain ⟨ow, oo⟩ := EV_ok hX hFN n
  have hst := hS.2.2.1
  refine B133 ⟨by omega, ?_⟩
  have k1 : s.2 46 v = 2 := k1
  refine ⟨fun _ => ?_, fun q => by omega, fun q => by omega, fun q => by omega, fun q => by omega, fun q => by omega⟩
  obtain ⟨e, ⟨c0, c1, c2, c3, c4, c5, c6⟩, hE⟩ := he
  obtain ⟨d1, d2, d3, d4⟩ := hV
  obtain ⟨r1, r2, r3⟩ := env_ok oo 26 E st d3 d4 hst.2
  rw [c5]
  refine envOn_ok hX hFN hH hO hS d3 d4 hE (fun r w hw => ?_)
  have hF' : ∀ r w, WP B C 2 2 s st (bnR (envE (EV σ most n).2 E st) (fun st F => rok st (.sub (.index D) F))) r w → F r w := hF
  have kp := old_k hH hX hS hw.1 (hw.top hX hS r1 (by decide) (by decide))
  rw [kp.1 47 v (by decide) k2.1 k2.2, c2]
  by_cases g0 : (envE (EV σ most n).2 E st).2.1 = 0
  · obtain ⟨x1, x2, x3, x4⟩ := r3 g0
    rw [bnR_0 g0] at hF'
    have S2 : WS σ most B C n (envE (EV σ most n).2 E st).1 1 w := hS.nx hw r1 ⟨g0, x1⟩ (by decide)
    exact wp_new (V := .sub (.index D) _) hX S2 (by decide) (fun q => by omega) (fun u hu hkp hlo h54 => ⟨r, vcel hu hlo (by rw [if_neg (by omega)]), VR_k (hw.2.2.2.2 g0) hkp (by omega) (by omega)⟩) (fun u hu => hF' _ u ((hw.tr hu).up (by decide) (by decide)))
  · rw [bnR_n g0] at hF'
    exact junk_ok hX hS (by decide) hw ⟨g0, r1⟩ (by decide) (fun q => by omega) (fun r' w' hw' => hF' r' w' (hw'.up (by decide) (by decide)))
theorem onp_div {v : Int} {D : Nat} {E : Term} {F : Int → SM → Prop} (hX : WCX σ t most B C) (hFN : FN σ t) (hH : OLDH σ lo hi elo ehi) (hW : WCO iv L h0 σ t most B C n) (hO : OCA iv L h0 σ t most lo hi elo ehi n) (hS : WS σ most B C n st 2 s) (hv : isV (.div (.index D) E) = true) (hV : VO σ t (.div (.index D) E)) (he : VR s lo hi elo ehi (.div (.index D) E) v) (hF : ∀ r w, WP B C 2 2 s st (oplE (σ.2 9) (σ.2 10) (σ.2 14) (σ.2 42) (EV σ most n).1 (EV σ most n).2 (.div (.index D) E) st) r w → F r w) : cm iv L h0 (3 * n + 10) 133 [vr 307, vi v] s (qi F) := by
  obtain ⟨m1, m2⟩ := hX.bc
  obtain ⟨⟨hT, hN, hR⟩, -⟩ := id hX
  obtain ⟨q1, q2, q3⟩ := id hH
  obtain ⟨k1, k2, k3⟩ := VR_kind hv he
  obtain ⟨ow, oo⟩ := EV_ok hX hFN n
  have hst := hS.2.2.1
  refine B133 ⟨by omega, ?_⟩
  have k1 : s.2 46 v = 4 := k1
  refine ⟨fun q => by omega, fun q => by omega, fun _ => ?_, fun q => by omega, fun q => by omega, fun q => by omega⟩
  obtain ⟨e, ⟨c0, c1, c2, c3, c4, c5, c6⟩, hE⟩ := he
  obtain ⟨⟨d0, d1, d2⟩, d3, d4, d5⟩ := hV
  obtain ⟨r1, r2, r3⟩ := env_ok oo 26 E st d4 d5 hst.2
  rw [c5]
  refine envOn_ok hX hFN hH hO hS d4 d5 hE (fun r w hw => ?_)
  have hF' : ∀ r w, WP B C 2 2 s st (bnR (envE (EV σ most n).2 E st) (fun st F => if fllF (σ.2 42) D = D then rok st (.div (.index D) F) else (EV σ most n).1 (fllF (σ.2 42) D) F st)) r w → F r w := hF
  have kp := old_k hH hX hS hw.1 (hw.top hX hS r1 (by decide) (by decide))
  have w59 : w.1 59 = (envE (EV σ most n).2 E st).2.1 := hw.2.2.2.1.2.2.1
  have w42 : w.2 42 = σ.2 42 := (hw.1.1.2 42 (by decide)).trans (hS.row (by decide))
  rw [kp.1 47 v (by decide) k2.1 k2.2, c2]
  refine filling_ok hX w42 (by omega) ?_
  rw [w59]
  by_cases g0 : (envE (EV σ most n).2 E st).2.1 = 0
  · obtain ⟨x1, x2, x3, x4⟩ := r3 g0
    rw [bnR_0 g0] at hF'
    have S2 : WS σ most B C n (envE (EV σ most n).2 E st).1 1 w := hS.nx hw r1 ⟨g0, x1⟩ (by decide)
    have fl := hT.lt d1
    refine ⟨fun _ => ⟨fun q => ?_, fun q => ?_⟩, fun c => by omega⟩
    · have hne : ¬ fllF (σ.2 42) D = D := fun c => q (if_pos c)
      rw [if_neg hne]
      rw [if_neg hne] at hF'
      have ht := tgt_f hFN d2 hne
      rw [ht] at d1 d3
      exact sub_ok hW d1 ⟨x2, x3, fun x x0 x1 hx q => d3 x x0 x1 hx (x4 x q)⟩ (hw.2.2.2.2 g0) S2 (by decide) (by omega) (fun r' u hu => hF' r' u ((hw.tr hu).up (by decide) (by decide)))
    · have heq : fllF (σ.2 42) D = D := Classical.byContradiction fun c => by rw [if_neg c] at q; have ht := tgt_f hFN d2 c; omega
      rw [if_pos heq] at hF'
      rw [kp.1 47 v (by decide) k2.1 k2.2, c2]
      exact wp_new (V := .div (.index D) _) hX S2 (by decide) (fun q => by omega) (fun u hu hkp hlo h54 => ⟨r, vcel hu hlo (by rw [if_pos (by omega)]), VR_k (hw.2.2.2.2 g0) hkp (by omega) (by omega)⟩) (fun u hu => hF' _ u ((hw.tr hu).up (by decide) (by decide)))
  · rw [bnR_n g0] at hF'
    have gp : 0 < (envE (EV σ most n).2 E st).2.1 := by have := r2.resolve_left g0; omega
    exact ⟨fun c => by omega, fun _ => hF' _ w ((hw.up (by decide) (by decide)).st g0)⟩
end
end
section
/-! The reference goes on with every value as evw says. -/
section
variable {iv : List (Int × Int)} {L : Nat} {h0 : MH} {σ s : SM} {t : Term} {d n : Nat} {most B C st k lo hi elo ehi : Int}
theorem rem_a {v x a' : Int} {D : Nat} {A' X : Term} {F : Int → SM → Prop} (hX : WCX σ t most B C) (hFN : FN σ t) (hH : OLDH σ lo hi elo ehi) (hW : WCO iv L h0 σ t most B C n) (hO : OCA iv L h0 σ t most lo hi elo ehi n) (hS : WS σ most B C n st 2 s) (hD : (D : Int) ∈ fl t) (so : σ.2 9 D = 4 ∨ σ.2 9 D = 5 ∨ σ.2 9 D = 6 ∨ σ.2 9 D = 7 ∨ σ.2 9 D = 9) (hx : (isV X = true ∧ VN σ t X) ∧ VR s B (s.1 52) C (s.1 54) X x) (B1 : isV A' = true) (B2 : VO σ t A') (b2 : VR s lo hi elo ehi A' a') (kv : lo ≤ v ∧ v < hi) (g47 : s.2 47 v = D) (g50 : s.2 50 v = -9) (hF : ∀ r w, WP B C 1 1 s st (bnR ((EV σ most n).2 A' st) (fun st y => actE (σ.2 9) (σ.2 10) (σ.2 14) (EV σ most n).1 D X y .null st)) r w → F r w) :
    cm iv L h0 (3 * n + 9) 132 [vr 307, vi a'] s (qi fun r39 s38 => ((0 < s38.1 59 → ((s38.1 59 ≤ 0 → cm iv L h0 (3 * n + 9) 128 [vr 307, vi (s38.2 47 v), vi x, vi r39, vi (-9)] s38 (qi fun r41 s40 => F r41 s40)) ∧ (0 < s38.1 59 → F (-9) s38))) ∧ (s38.1 59 ≤ 0 → ((s38.2 50 v ≠ (-9) → cm iv L h0 (3 * n + 9) 131 [vr 307, vi (s38.2 50 v)] s38 (qi fun r43 s42 => ((s42.1 59 ≤ 0 → cm iv L h0 (3 * n + 9) 128 [vr 307, vi (s42.2 47 v), vi x, vi r39, vi r43] s42 (qi fun r45 s44 => F r45 s44)) ∧ (0 < s42.1 59 → F (-9) s42)))) ∧ (s38.2 50 v = (-9) → ((s38.1 59 ≤ 0 → cm iv L h0 (3 * n + 9) 128 [vr 307, vi (s38.2 47 v), vi x, vi r39, vi (-9)] s38 (qi fun r47 s46 => F r47 s46)) ∧ (0 < s38.1 59 → F (-9) s38))))))) := by
  obtain ⟨y1, y2, y3⟩ := (EV_ok hX hFN n).2 A' st B1 B2 hS.2.2.1.2
  refine onA hX hO A' a' st s _ B1 B2 b2 (hS.up (by decide)) (fun r' u hu hu9 => ?_)
  generalize (EV σ most n).2 A' st = R at *
  have u59 : u.1 59 = R.2.1 := hu.2.2.2.1.2.2.1
  have kp2 := old_k hH hX hS hu.1 (hu.top hX hS y1 (by decide) (by decide))
  have h47 := (kp2.1 47 v (by decide) kv.1 kv.2).trans g47
  have h50 := (kp2.1 50 v (by decide) kv.1 kv.2).trans g50
  rw [u59, h50, h47]
  by_cases g1 : R.2.1 = 0
  · obtain ⟨z1, z2, z3⟩ := y3 g1
    rw [bnR_0 g1] at hF
    have S3 := hS.nx (k' := 1) hu y1 ⟨g1, z1⟩ (by decide)
    have hkp' := hu.1.keep (lo := B) (elo := C) (Or.inl (Int.le_refl _)) (Or.inl (Int.le_refl _))
    have act := actM_ok (F := F) (Y := R.2.2.2) (y := r') (E := .null) (e := -9) hX hW S3 hD (by omega) ⟨hx.1, VR_k hx.2 hkp' hu.2.1.1 hu.2.2.1.1⟩ (fun _ => ⟨⟨z2, z3⟩, hu.2.2.2.2 g1⟩) (fun q => by omega) (fun r2 u2 hu2 => hF r2 u2 ((hu.tr hu2).up (by decide) (by decide)))
    exact ⟨fun c => by omega, fun _ => ⟨fun c => absurd rfl c, fun _ => ⟨fun _ => act, fun c => by omega⟩⟩⟩
  · rw [bnR_n g1] at hF
    have gp : 0 < R.2.1 := by have := y2.resolve_left g1; omega
    exact ⟨fun _ => ⟨fun c => by omega, fun _ => hF _ u ((hu.up (by decide) (by decide)).st g1)⟩, fun c => by omega⟩
theorem rem_b {v x e : Int} {D : Nat} {E X : Term} {F : Int → SM → Prop} (hX : WCX σ t most B C) (hFN : FN σ t) (hH : OLDH σ lo hi elo ehi) (hW : WCO iv L h0 σ t most B C n) (hO : OCA iv L h0 σ t most lo hi elo ehi n) (hS : WS σ most B C n st 2 s) (hD : (D : Int) ∈ fl t) (so : σ.2 9 D = 11) (hx : (isV X = true ∧ VN σ t X) ∧ VR s B (s.1 52) C (s.1 54) X x) (E1 : isE 26 E) (E2 : cov σ D E) (E3 : VO σ t E) (b2 : VR s lo hi elo ehi E e) (kv : lo ≤ v ∧ v < hi) (g47 : s.2 47 v = D) (hF : ∀ r w, WP B C 1 2 s st (bnR (envE (EV σ most n).2 E st) (fun st G => actE (σ.2 9) (σ.2 10) (σ.2 14) (EV σ most n).1 D X .null G st)) r w → F r w) :
    cm iv L h0 (3 * n + 9) 131 [vr 307, vi e] s (qi fun r51 s50 => ((s50.1 59 ≤ 0 → cm iv L h0 (3 * n + 9) 128 [vr 307, vi (s50.2 47 v), vi x, vi (-9), vi r51] s50 (qi fun r53 s52 => F r53 s52)) ∧ (0 < s50.1 59 → F (-9) s50))) := by
  obtain ⟨y1, y2, y3⟩ := env_ok (EV_ok hX hFN n).2 26 E st E1 E3 hS.2.2.1.2
  refine envOn_ok hX hFN hH hO hS E1 E3 b2 (fun r' u hu => ?_)
  generalize envE (EV σ most n).2 E st = R at *
  have u59 : u.1 59 = R.2.1 := hu.2.2.2.1.2.2.1
  have kp2 := old_k hH hX hS hu.1 (hu.top hX hS y1 (by decide) (by decide))
  have h47 := (kp2.1 47 v (by decide) kv.1 kv.2).trans g47
  rw [u59, h47]
  by_cases g1 : R.2.1 = 0
  · obtain ⟨z1, z2, z3, z4⟩ := y3 g1
    rw [bnR_0 g1] at hF
    have S3 := hS.nx (k' := 1) hu y1 ⟨g1, z1⟩ (by decide)
    have hkp' := hu.1.keep (lo := B) (elo := C) (Or.inl (Int.le_refl _)) (Or.inl (Int.le_refl _))
    have hcov : cov σ D R.2.2.2 := fun z z0 z1 hz q => E2 z z0 z1 hz (z4 z q)
    have act := actM_ok (F := F) (Y := .null) (y := -9) (E := R.2.2.2) (e := r') hX hW S3 hD (by omega) ⟨hx.1, VR_k hx.2 hkp' hu.2.1.1 hu.2.2.1.1⟩ (fun q => by omega) (fun _ => ⟨⟨z2, z3, hcov⟩, hu.2.2.2.2 g1⟩) (fun r2 u2 hu2 => hF r2 u2 ((hu.tr hu2).up (by decide) (by decide)))
    exact ⟨fun _ => act, fun c => by omega⟩
  · rw [bnR_n g1] at hF
    have gp : 0 < R.2.1 := by have := y2.resolve_left g1; omega
    exact ⟨fun c => by omega, fun _ => hF _ u ((hu.up (by decide) (by decide)).st g1)⟩
theorem onp_rem {v : Int} {D : Nat} {A A' E : Term} {F : Int → SM → Prop} (hX : WCX σ t most B C) (hFN : FN σ t) (hH : OLDH σ lo hi elo ehi) (hW : WCO iv L h0 σ t most B C n) (hO : OCA iv L h0 σ t most lo hi elo ehi n) (hS : WS σ most B C n st 2 s) (hv : isV (.rem (.index D) (.elem A (.elem A' E))) = true) (hV : VO σ t (.rem (.index D) (.elem A (.elem A' E)))) (he : VR s lo hi elo ehi (.rem (.index D) (.elem A (.elem A' E))) v) (hF : ∀ r w, WP B C 2 2 s st (oplE (σ.2 9) (σ.2 10) (σ.2 14) (σ.2 42) (EV σ most n).1 (EV σ most n).2 (.rem (.index D) (.elem A (.elem A' E))) st) r w → F r w) : cm iv L h0 (3 * n + 10) 133 [vr 307, vi v] s (qi F) := by
  obtain ⟨q1, q2, q3⟩ := id hH
  obtain ⟨k1, k2, k3⟩ := VR_kind hv he
  have k1 : s.2 46 v = 7 := k1
  have hst := hS.2.2.1
  obtain ⟨a, a', e, ⟨c0, c1, c2, c3, c4, c5, c6⟩, v1, v2, v3⟩ := he
  obtain ⟨⟨D1, A1, A2⟩, hcase⟩ := hV
  obtain ⟨r1, r2, r3⟩ := (EV_ok hX hFN n).2 A st A1 A2 hst.2
  have hF' : ∀ r w, WP B C 2 2 s st (bnR ((EV σ most n).2 A st) (fun st x => bnR (optE (fun B => (EV σ most n).2 B st) st A') (fun st y => bnR (optE (fun E => envE (EV σ most n).2 E st) st E) (fun st F => actE (σ.2 9) (σ.2 10) (σ.2 14) (EV σ most n).1 D x y F st)))) r w → F r w := hF
  clear hF
  refine B133 ⟨by omega, fun q => by omega, fun q => by omega, fun q => by omega, fun q => by omega, fun q => by omega, fun _ => ?_⟩
  rw [c3]
  refine onA hX hO A a st s _ A1 A2 v1 (hS.up (by decide)) (fun r w hw hr9 => ?_)
  generalize (EV σ most n).2 A st = R at *
  have w59 : w.1 59 = R.2.1 := hw.2.2.2.1.2.2.1
  have kp := old_k hH hX hS hw.1 (hw.top hX hS r1 (by decide) (by decide))
  have g47 := (kp.1 47 v (by decide) k2.1 k2.2).trans c2
  have g49 := (kp.1 49 v (by decide) k2.1 k2.2).trans c4
  have g50 := (kp.1 50 v (by decide) k2.1 k2.2).trans c5
  by_cases g0 : R.2.1 = 0
  · obtain ⟨x1, x2, x3⟩ := r3 g0
    rw [bnR_0 g0] at hF'
    have S2 : WS σ most B C n R.1 2 w := hS.nx hw r1 ⟨g0, x1⟩ (by decide)
    have vx := hw.2.2.2.2 g0
    rw [w59, g49, g50, g47, g0]
    refine ⟨fun c => by omega, fun _ => ?_⟩
    rcases hcase with ⟨so, B1, B2, rfl⟩ | ⟨so, rfl, E1, E2, E3⟩ | ⟨so, rfl, rfl⟩
    · obtain ⟨b1, b2⟩ := v2.resolve_left (fun q => isV_nn B1 q.1)
      have kb := (VR_kind B1 b2).2.1
      have e9' : e = -9 := (v3.resolve_right (fun q => q.1 rfl)).2
      rw [e9'] at g50
      have hG : ∀ r2 u2, WP B C 1 1 w R.1 (bnR ((EV σ most n).2 A' R.1) (fun st y => actE (σ.2 9) (σ.2 10) (σ.2 14) (EV σ most n).1 D R.2.2.2 y .null st)) r2 u2 → F r2 u2 := fun r2 u2 hu2 => by
        refine hF' r2 u2 ?_
        rw [optE_v (isV_nn B1)]
        exact (hw.tr hu2).up (by decide) (by decide)
      exact ⟨fun _ => rem_a hX hFN hH hW hO S2 D1 so ⟨⟨x2, x3⟩, vx⟩ B1 B2 (VR_k b2 kp (Int.le_refl _) (Int.le_refl _)) k2 g47 g50 hG, fun c => by omega⟩
    · have b9 : a' = -9 := (v2.resolve_right (fun q => q.1 rfl)).2
      have Enn : E ≠ .null := fun q => by rw [q] at E1; exact E1.elim
      obtain ⟨b1, b2⟩ := v3.resolve_left (fun q => Enn q.1)
      have er := ((VR_E 26 E e E1 (Nat.le_refl _)).mp b2).1
      have hG : ∀ r2 u2, WP B C 1 2 w R.1 (bnR (envE (EV σ most n).2 E R.1) (fun st G => actE (σ.2 9) (σ.2 10) (σ.2 14) (EV σ most n).1 D R.2.2.2 .null G st)) r2 u2 → F r2 u2 := fun r2 u2 hu2 => by
        refine hF' r2 u2 ?_
        rw [optE_n, bnR_rok, optE_v Enn]
        exact (hw.tr hu2).up (by decide) (by decide)
      exact ⟨fun c => absurd b9 c, fun _ => ⟨fun c => by omega, fun _ => ⟨fun _ => rem_b hX hFN hH hW hO S2 D1 so ⟨⟨x2, x3⟩, vx⟩ E1 E2 E3 (VR_k b2 kp (Int.le_refl _) (Int.le_refl _)) k2 g47 hG, fun c => by omega⟩⟩⟩
    · have b9 : a' = -9 := (v2.resolve_right (fun q => q.1 rfl)).2
      have e9' : e = -9 := (v3.resolve_right (fun q => q.1 rfl)).2
      have hG : ∀ r2 u2, WP B C 1 1 w R.1 (actE (σ.2 9) (σ.2 10) (σ.2 14) (EV σ most n).1 D R.2.2.2 .null .null R.1) r2 u2 → F r2 u2 := fun r2 u2 hu2 => by
        refine hF' r2 u2 ?_
        rw [optE_n, bnR_rok, optE_n, bnR_rok]
        exact (hw.tr hu2).up (by decide) (by decide)
      have act := actM_ok (F := F) (Y := .null) (y := -9) (E := .null) (e := -9) hX hW (S2.up (by decide)) D1 (by omega) ⟨⟨x2, x3⟩, vx⟩ (fun q => by omega) (fun q => by omega) hG
      exact ⟨fun c => absurd b9 c, fun _ => ⟨fun c => by omega, fun _ => ⟨fun c => absurd e9' c, fun _ => ⟨fun _ => act, fun c => by omega⟩⟩⟩⟩
  · rw [bnR_n g0] at hF'
    have gp : 0 < R.2.1 := by have := r2.resolve_left g0; omega
    rw [w59]
    exact ⟨fun _ => ⟨fun _ => ⟨fun c => by omega, fun _ => hF' _ w ((hw.up (by decide) (by decide)).st g0)⟩, fun c => by omega⟩, fun c => by omega⟩
theorem onPlain_ok {v : Int} {V : Term} {F : Int → SM → Prop} (hX : WCX σ t most B C) (hFN : FN σ t) (hH : OLDH σ lo hi elo ehi) (hW : WCO iv L h0 σ t most B C n) (hO : OCA iv L h0 σ t most lo hi elo ehi n) (hS : WS σ most B C n st 2 s) (hv : isV V = true) (hV : VO σ t V) (he : VR s lo hi elo ehi V v) (hF : ∀ r w, WP B C 2 2 s st (oplE (σ.2 9) (σ.2 10) (σ.2 14) (σ.2 42) (EV σ most n).1 (EV σ most n).2 V st) r w → F r w) : cm iv L h0 (3 * n + 10) 133 [vr 307, vi v] s (qi F) := by
  cases V with
  | int z => exact onp_int hX hFN hH hW hO hS hv hV he hF
  | arg z => exact onp_arg hX hFN hH hW hO hS hv hV he hF
  | index z => exact onp_index hX hFN hH hW hO hS hv hV he hF
  | sub D E =>
    cases D with
    | index D => exact onp_sub hX hFN hH hW hO hS hv hV he hF
    | _ => cases hv
  | add A A' => exact onp_add hX hFN hH hW hO hS hv hV he hF
  | div D E =>
    cases D with
    | index D => exact onp_div hX hFN hH hW hO hS hv hV he hF
    | _ => cases hv
  | length A => exact onp_length hX hFN hH hW hO hS hv hV he hF
  | rem D q =>
    cases D with
    | index D =>
      cases q with
      | elem A q =>
        cases q with
        | elem A' E => exact onp_rem hX hFN hH hW hO hS hv hV he hF
        | _ => cases hv
      | _ => cases hv
    | _ => cases hv
  | _ => cases hv
theorem OCA_all (hFN : FN σ t) (hH : OLDH σ lo hi elo ehi) : ∀ n : Nat, n ≤ 60 → OCA iv L h0 σ t most lo hi elo ehi n := by
  intro n
  induction n with
  | zero =>
    intro _ B C v st V s hX hv hV he hS
    show cm iv L h0 (7 + 1) 132 [vr 307, vi v] s _
    exact B132 (beg_ok hX hS (by decide) (fun _ w hw => ⟨fun q => absurd rfl q, fun _ => ⟨hw, fun _ => rfl⟩⟩) (fun n' h => by omega))
  | succ n ih =>
    intro hn B C v st V s hX hv hV he hS
    obtain ⟨m1, m2⟩ := hX.bc
    have ev : ∀ R : RS, R = (EV σ most (n + 1)).2 V st → R = if st = most then rst st 4 (-9) else oplE (σ.2 9) (σ.2 10) (σ.2 14) (σ.2 42) (EV σ most n).1 (EV σ most n).2 V (st + 1) := fun R h => h
    have hRO : RO σ t most st ((EV σ most (n + 1)).2 V st) := (EV_ok hX hFN (n + 1)).2 V st hv hV hS.2.2.1.2
    rw [show 3 * (n + 1) + 8 = (3 * n + 10) + 1 by omega]
    refine B132 (beg_ok hX hS hn (fun q w hw => ⟨fun c => absurd rfl c, fun _ => ?_⟩) (fun n' h hst s1 S1 he1 h56 h58 => ⟨fun _ => ?_, fun c => by cases c⟩))
    · rw [ev _ rfl, if_pos (q.resolve_left (by omega))]
      exact ⟨hw, fun _ => rfl⟩
    · obtain rfl : n = n' := by omega
      have he' : VR s1 lo hi elo ehi V v := VR_k he ⟨fun f _ _ _ _ => by rw [he1.2 f (by simp)], fun _ _ _ => by rw [he1.2 53 (by simp)]⟩ (Int.le_refl _) (Int.le_refl _)
      have evn := ev _ rfl
      rw [if_neg hst] at evn
      refine onPlain_ok hX hFN hH (WCO_all hX n (by omega)) (ih (by omega)) (S1.up (by decide)) hv hV he' (fun r w hw => ?_)
      have w58 := hw.2.2.2.1.2.1
      have w59 := hw.2.2.2.1.2.2.1
      have S58 := hS.2.1.2.1
      have lv := lev_ok he1 h58 hw (by decide)
      rw [evn] at hRO ⊢
      refine ⟨by omega, fun q => ⟨lv, fun c => ?_⟩, fun q => ⟨lv.st (by omega), fun _ => rfl⟩⟩
      have := hRO.2.1
      omega
end
end
section
/-! work(), resume(): what is ahead of working, and behind it. -/
theorem jsn_1 {J : JT} {b z x : Int} (h : J.2.2 x = 1) : (jsn J b z).2.2 x = 1 := by
  unfold jsn
  by_cases e : J.2.2 b = 0
  · rw [if_pos e]
    show (if x = b then z else J.2.2 x) = 1
    rw [if_neg (fun q => by rw [q] at h; omega)]
    exact h
  · rw [if_neg e]; exact h
theorem jen_1 {M : JT × Term} {sb b x : Int} {A : Option Term} (h : M.1.2.2 x = 1) : (jen sb b A M).1.2.2 x = 1 := by
  show (jcl sb b A M.2 (jmd b M.2 M.1)).2.2 x = 1
  cases A with
  | none => exact h
  | some a =>
    by_cases e : (jmd b M.2 M.1).2.2 b = 0 ∧ sb ≠ 10 ∧ sb ≠ 11 ∧ kmt a M.2 = false
    · rw [jcl_y e]
      show (if x = b then 6 else (jmd b M.2 M.1).2.2 x) = 1
      rw [if_neg (fun q => by subst q; have e1 := e.1; have h2 : (jmd x M.2 M.1).2.2 x = 1 := h; rw [h2] at e1; cases e1)]
      exact h
    · rw [jcl_z e]; exact h
/-- a name that nothing binds is in a frame for it -/
theorem jd_nm {so nu td pa up pl : Int → Int} {kk : Int → Term} {bd : Int → Int → Int} {B : Int} : ∀ (n : Nat) (t : Term), dpt t ≤ n → AT so pa up pl B t → (fl t).Nodup → ∀ (x : Int), x ∈ fl t → so x = 3 → bd x (nu x) = -9 → ∀ (A : Option Term) (J : JT), (jd so nu td pa kk bd t A J).1.2.2 x = 1 := by
  intro n
  induction n with
  | zero => intro t h; have := dpt_pos t; omega
  | succ n ih =>
    intro t hn hA hnd x hx h3 hb A J
    cases t with
    | index b =>
      obtain rfl := List.mem_singleton.mp hx
      rw [jd_0, if_neg (by omega), if_neg (by omega), if_neg (by omega)]
      refine jen_1 ?_
      show (jnm so td pa kk (bd b (nu b)) b (jin b A J)).1.2.2 b = 1
      unfold jnm
      rw [if_pos hb]
      show (if (b : Int) = b then (1 : Int) else _) = 1
      rw [if_pos rfl]
    | add t1 y =>
      have hd1 : dpt (Term.add t1 y) = max (dpt t1) (dpt y + 1) := rfl
      obtain ⟨d1, d2, d3⟩ := List.nodup_append.mp hnd
      have hy := hA.2.1
      have fy : x ∈ fl y → ∀ (A : Option Term) (J : JT), (jd so nu td pa kk bd y A J).1.2.2 x = 1 := fun q => ih y (by omega) hy d2 x q h3 hb
      have ny : x ∈ fl t1 → x ∉ fl y := fun q q2 => d3 x q x q2 rfl
      have oy := jd_out (so := so) (nu := nu) (td := td) (kk := kk) (bd := bd) (dpt y) y (Nat.le_refl _) hy
      have hh : ∀ b : Nat, hd t1 = b → x ≠ (b : Int) := fun b e q => by
        have := hA.2.2.2.1
        rw [e, ← q, h3] at this
        have h0 := na_ge t1
        have : na t1 < 0 := this
        omega
      cases t1 with
      | index b =>
        have hxb := hh b rfl
        have hxy : x ∈ fl y := (List.mem_append.mp hx).resolve_left (fun q => hxb (List.mem_singleton.mp q))
        rw [jd_1]
        refine jen_1 ?_
        by_cases e8 : so b = 8
        · rw [if_pos e8]
          unfold jdf
          split
          · show (if x = (b : Int) then _ else _) = (1 : Int)
            rw [if_neg hxb]
            exact fy hxy _ _
          · exact fy hxy _ _
        · rw [if_neg e8]
          by_cases e15 : so b = 15
          · rw [if_pos e15]; exact fy hxy _ _
          · rw [if_neg e15]
            unfold jhf
            split
            · exact fy hxy _ _
            · exact fy hxy _ _
            · exact jsn_1 (fy hxy _ _)
      | add t2 z =>
        have hd2 : dpt (Term.add t2 z) = max (dpt t2) (dpt z + 1) := rfl
        obtain ⟨f1, f2, f3⟩ := List.nodup_append.mp d1
        have hz := hA.1.2.1
        have fz : x ∈ fl z → ∀ (A : Option Term) (J : JT), (jd so nu td pa kk bd z A J).1.2.2 x = 1 := fun q => ih z (by omega) hz f2 x q h3 hb
        have nz : x ∈ fl t2 → x ∉ fl z := fun q q2 => f3 x q x q2 rfl
        have oz := jd_out (so := so) (nu := nu) (td := td) (kk := kk) (bd := bd) (dpt z) z (Nat.le_refl _) hz
        -- first z, then y
        have zy : x ∈ fl z ∨ x ∈ fl y → ∀ (A A' : Option Term) (J : JT), (jd so nu td pa kk bd y A (jd so nu td pa kk bd z A' J).1).1.2.2 x = 1 := fun q A A' J => by
          rcases q with q | q
          · rw [(oy A _ x (ny (List.mem_append_right _ q))).2.2]
            exact fz q _ _
          · exact fy q _ _
        cases t2 with
        | index b =>
          have hxb := hh b rfl
          have hxzy : x ∈ fl z ∨ x ∈ fl y := by
            rcases List.mem_append.mp hx with q | q
            · exact Or.inl ((List.mem_append.mp q).resolve_left (fun q => hxb (List.mem_singleton.mp q)))
            · exact Or.inr q
          rw [jd_2]
          refine jen_1 ?_
          by_cases e9 : so b = 9
          · rw [if_pos e9]
            unfold jus
            split
            · exact zy hxzy _ _ _
            · exact zy hxzy _ _ _
            · rcases hxzy with q | q
              · show (jd so nu td pa kk bd y _ (jsn (jd so nu td pa kk bd z none (jin b A J)).1 (hd z) 2)).1.2.2 x = 1
                rw [(oy _ _ x (ny (List.mem_append_right _ q))).2.2]
                exact jsn_1 (fz q _ _)
              · exact fy q _ _
          · rw [if_neg e9]
            by_cases e10 : so b = 10
            · rw [if_pos e10]; exact zy hxzy _ _ _
            · rw [if_neg e10]
              by_cases e12 : so b = 12
              · rw [if_pos e12]
                unfold jpr
                split
                · exact zy hxzy _ _ _
                · exact zy hxzy _ _ _
              · rw [if_neg e12]; exact zy hxzy _ _ _
        | add t3 v =>
          have hd3 : dpt (Term.add t3 v) = max (dpt t3) (dpt v + 1) := rfl
          obtain ⟨g1, g2, g3⟩ := List.nodup_append.mp f1
          have hv := hA.1.1.2.1
          have fv : x ∈ fl v → ∀ (A : Option Term) (J : JT), (jd so nu td pa kk bd v A J).1.2.2 x = 1 := fun q => ih v (by omega) hv g2 x q h3 hb
          cases t3 with
          | index b =>
            have hxb := hh b rfl
            have vzy : ∀ (A A' A'' : Option Term) (J : JT), (jd so nu td pa kk bd y A (jd so nu td pa kk bd z A' (jd so nu td pa kk bd v A'' J).1).1).1.2.2 x = 1 := fun A A' A'' J => by
              rcases List.mem_append.mp hx with q | q
              · rcases List.mem_append.mp q with q2 | q2
                · have q3 : x ∈ fl v := (List.mem_append.mp q2).resolve_left (fun q => hxb (List.mem_singleton.mp q))
                  rw [(oy A _ x (ny q)).2.2, (oz A' _ x (nz q2)).2.2]
                  exact fv q3 _ _
                · exact zy (Or.inl q2) _ _ _
              · exact fy q _ _
            rw [jd_3]
            refine jen_1 ?_
            unfold jpk
            split
            · exact vzy _ _ _ _
            · split
              · exact vzy _ _ _ _
              · show (if x = (b : Int) then _ else _) = (1 : Int)
                rw [if_neg hxb]
                exact vzy _ _ _ _
          | add t4 u =>
            -- five parts and more: no sort has them
            exfalso
            have h1 := hA.1.1.1.2.2.2.1
            have h2 := hA.2.2.2.1
            have p3 := pO_in (so (hd (Term.add (Term.add (Term.add t4 u) v) z)))
            have n0 := na_ge t4
            have : na (Term.add (Term.add (Term.add t4 u) v) z) = na t4 + 1 + 1 + 1 := rfl
            omega
          | _ => exact hA.1.1.1.elim
        | _ => exact hA.1.1.elim
      | _ => exact hA.1.elim
    | _ => exact hA.elim
/-- the state in which working begins -/
def BGW (s : SM) (t : Term) (n hf : Int) (w : SM) : Prop := eqx [3, 18, 52, 54, 55, 56, 57, 58, 59, 60, 63] [4, 5, 6, 7, 17, 19, 20, 21, 64, 65] s w ∧ SX [52, 54, 55, 56, 57, 58, 59, 60, 63] [64, 65] s w ∧ (w.1 55 = hf ∧ w.1 52 = 1300 * hf ∧ w.1 54 = 640 * hf ∧ w.1 56 = 0 ∧ w.1 57 = n ∧ w.1 58 = 0 ∧ w.1 59 = 0 ∧ w.1 60 = -9) ∧ (∀ x, x ∈ fl t → w.2 21 x = (jdg s t).2.2 x) ∧ w.1 63 = (fl t).length ∧ ∀ (k : Nat) (x : Int), (fl t)[k]? = some x → w.2 64 k = x ∧ w.2 65 k = (jdg s t).2.2 x
section
variable {iv : List (Int × Int)} {L : Nat} {h0 : MH} {s : SM} {t : Term} {d : Nat}
theorem beginWork_ok {n hf : Int} {F : SM → Prop} (h : SHT s t) (hN : NB s) (hK : KIs s) (hD : 240 ≤ d) (hh : hf = 0 ∨ hf = 1) (hF : ∀ w, BGW s t n hf w → F w) : cm iv L h0 d 134 [vr 307, vi n, vi hf] s (qv F) := by
  obtain ⟨d, rfl⟩ : ∃ k, d = k + 1 := ⟨d - 1, by omega⟩
  have e1 : eqx [52, 54, 55, 56, 57, 58, 59, 60] [] s (us (us (us (us (us (us (us (us s 55 hf) 52 (1300 * hf)) 54 (640 * hf)) 56 0) 57 n) 58 0) 59 0) 60 (-9)) := eqx_us (eqx_us (eqx_us (eqx_us (eqx_us (eqx_us (eqx_us (eqx_us eqx.rf (by decide)) (by decide)) (by decide)) (by decide)) (by decide)) (by decide)) (by decide)) (by decide)
  generalize hs1 : us (us (us (us (us (us (us (us s 55 hf) 52 (1300 * hf)) 54 (640 * hf)) 56 0) 57 n) 58 0) 59 0) 60 (-9) = s1 at e1
  have v1 : s1.1 55 = hf ∧ s1.1 52 = 1300 * hf ∧ s1.1 54 = 640 * hf ∧ s1.1 56 = 0 ∧ s1.1 57 = n ∧ s1.1 58 = 0 ∧ s1.1 59 = 0 ∧ s1.1 60 = -9 := by rw [← hs1]; exact ⟨rfl, rfl, rfl, rfl, rfl, rfl, rfl, rfl⟩
  have x1 : SX [52, 54, 55, 56, 57, 58, 59, 60] [] s s1 := SX.eq e1 (by decide) (by decide)
  have ej : jdg s1 t = jdg s t := by
    unfold jdg
    rw [jds_e (e1.2 9 (by decide)) (e1.2 10 (by decide)) (e1.2 11 (by decide)) (e1.2 12 (by decide)) (e1.2 13 (by decide)) (e1.2 14 (by decide)) (e1.1 2 (by decide)) (fun k _ _ => by
      show kt (s1.2 4) (s1.2 5) (s1.2 6) k = _
      rw [e1.2 4 (by decide), e1.2 5 (by decide), e1.2 6 (by decide)])]
  refine B134 ⟨by omega, by omega, ?_⟩
  rw [hs1]
  refine jl_ok (h.x x1 (by decide) (by decide)) (hN.x x1 h.2.2.2.2.1.2 (by decide) (by decide)) (KI_x hK x1 (by decide) (by decide)) (by omega) (by omega) (fun w hw => ?_)
  obtain ⟨w1, w2, w3, w4, -⟩ := hw
  rw [ej] at w4
  have key : ∀ (m p : List Int) (x : SM), fl t = p ++ m → eqx [63] [64, 65] w x → x.1 63 = (fl t).length → (∀ (k : Nat) (y : Int), p[k]? = some y → x.2 64 k = y ∧ x.2 65 k = (jdg s t).2.2 y) → wm iv L h0 (d + 1) 134 73 [lr 307, ln, ln, li p.length] [] x (qv F) := by
    intro m
    induction m with
    | nil =>
      intro p x e x1' x2 x3
      have ep : p = fl t := by rw [e]; simp
      have e18 : x.1 18 = w.1 18 := x1'.1 18 (by decide)
      have hl := LR_nil w3 e
      refine B134_73 ⟨fun _ => hF x ⟨?_, ?_, ⟨?_, ?_, ?_, ?_, ?_, ?_, ?_, ?_⟩, fun y hy => ?_, x2, fun k y hk => x3 k y (by rw [ep]; exact hk)⟩, fun q => by omega⟩
      · exact (e1.up (fun y q => by simp at q ⊢; omega) (fun y q => by cases q)).tr ((w1.up (fun y q => by simp at q ⊢; omega) (fun y q => by simp at q ⊢; omega)).tr (x1'.up (fun y q => by simp at q ⊢; omega) (fun y q => by simp at q ⊢; omega)))
      · exact (x1.up (fun y q => by simp at q ⊢; omega) (fun y q => by cases q)).tr ((w2.up (fun y q => by cases q) (fun y q => by cases q)).tr (SX.eq x1' (by decide) (by decide)))
      · rw [x1'.1 55 (by decide), w1.1 55 (by decide)]; exact v1.1
      · rw [x1'.1 52 (by decide), w1.1 52 (by decide)]; exact v1.2.1
      · rw [x1'.1 54 (by decide), w1.1 54 (by decide)]; exact v1.2.2.1
      · rw [x1'.1 56 (by decide), w1.1 56 (by decide)]; exact v1.2.2.2.1
      · rw [x1'.1 57 (by decide), w1.1 57 (by decide)]; exact v1.2.2.2.2.1
      · rw [x1'.1 58 (by decide), w1.1 58 (by decide)]; exact v1.2.2.2.2.2.1
      · rw [x1'.1 59 (by decide), w1.1 59 (by decide)]; exact v1.2.2.2.2.2.2.1
      · rw [x1'.1 60 (by decide), w1.1 60 (by decide)]; exact v1.2.2.2.2.2.2.2
      · rw [x1'.2 21 (by decide)]; exact (w4 y hy).1
    | cons y m ih =>
      intro p x e x1' x2 x3
      obtain ⟨c1, c2⟩ := LR_cons w3 e
      obtain ⟨c3, hy⟩ := h.fl80 e
      have hyl := h.lt hy
      have e' := e
      rw [app1] at e'
      have el : ((p ++ [y]).length : Int) = p.length + 1 := by simp
      have e18 : x.1 18 = w.1 18 := x1'.1 18 (by decide)
      have e17 : x.2 17 = w.2 17 := x1'.2 17 (by decide)
      refine B134_73 ⟨fun q => by omega, fun _ => ?_⟩
      rw [e17, c1, x1'.2 21 (by decide), (w4 y hy).1]
      refine ⟨by omega, by omega, by omega, ?_⟩
      have := ih (p ++ [y]) (ua (ua x 64 p.length y) 65 p.length ((jdg s t).2.2 y)) e' (eqx_ua (eqx_ua x1' (by decide)) (by decide)) x2 (fun k y' hk => ?_)
      · rw [el] at this
        exact this
      · simp only [ua_2]
        by_cases hkp : k < p.length
        · rw [List.getElem?_append_left hkp] at hk
          rw [if_neg (by omega), if_neg (by omega), if_neg (by omega), if_neg (by omega)]
          exact x3 k y' hk
        · rw [List.getElem?_append_right (by omega)] at hk
          have hk0 : k = p.length := by
            have := (List.getElem?_eq_some_iff.mp hk).1
            simp at this
            omega
          subst hk0
          simp at hk
          subst hk
          simp
  exact key (fl t) [] _ rfl (eqx_us eqx.rf (by decide)) (by show w.1 18 = _; exact w3.1) (fun k y hk => by simp at hk)
/-- behind working -/
def enwU (s : SM) (v o : Int) : SM := (fun y => if y = 62 then v else if y = 35 then 0 else if y = 61 then o else s.1 y, fun f y => if f = 42 ∧ 0 ≤ y ∧ y < s.1 8 then 0 else s.2 f y)
def enwO (s : SM) (v : Int) : Int := if 0 < s.1 59 then s.1 59 else if s.2 51 v = 0 then 0 else 1
theorem endWork_ok {v : Int} {F : Int → SM → Prop} (h8 : 0 ≤ s.1 8 ∧ s.1 8 ≤ 3000) (hv : s.1 59 ≤ 0 → 0 ≤ v ∧ v < 2600) (hF : F (enwO s v) (enwU s v (enwO s v))) : cm iv L h0 d 135 [vr 307, vi v] s (qi F) := by
  have key : ∀ (m : Nat) (k : Int), 0 ≤ k → k + m = s.1 8 → wm iv L h0 d 135 2 [lr 307, li v, li k] [] (s.1, fun f y => if f = 42 ∧ 0 ≤ y ∧ y < k then 0 else s.2 f y) (qi F) := by
    intro m
    induction m with
    | zero =>
      intro k k0 hk
      have ek : k = s.1 8 := by omega
      subst ek
      have fin : ∀ o, o = enwO s v → F o (us (us (us ((s.1, fun f y => if f = 42 ∧ 0 ≤ y ∧ y < s.1 8 then 0 else s.2 f y) : SM) 62 v) 35 0) 61 o) := fun o ho => by
        rw [ho]
        refine (eqS (s := enwU s v (enwO s v)) ?_ (fun f y => rfl) : us (us (us ((s.1, fun f y => if f = 42 ∧ 0 ≤ y ∧ y < s.1 8 then 0 else s.2 f y) : SM) 62 v) 35 0) 61 (enwO s v) = enwU s v (enwO s v)) ▸ hF
        funext y
        show (if y = 61 then enwO s v else if y = 35 then 0 else if y = 62 then v else s.1 y) = if y = 62 then v else if y = 35 then 0 else if y = 61 then enwO s v else s.1 y
        by_cases e1 : y = 61
        · subst e1; rfl
        · rw [if_neg e1]
          by_cases e2 : y = 35
          · subst e2; rfl
          · rw [if_neg e2, if_neg e2, if_neg e1]
      have e51 : (if 51 = 42 ∧ 0 ≤ v ∧ v < s.1 8 then (0 : Int) else s.2 51 v) = s.2 51 v := if_neg (by omega)
      refine B135_2 ⟨fun _ => ⟨fun q => ⟨hv q, fun q2 => fin 0 ?_, fun q2 => fin 1 ?_⟩, fun q => fin _ ?_⟩, fun q => by have q : s.1 8 < s.1 8 := q; omega⟩
      · have q2 : (if 51 = 42 ∧ 0 ≤ v ∧ v < s.1 8 then (0 : Int) else s.2 51 v) = 0 := q2
        rw [e51] at q2
        have q : s.1 59 ≤ 0 := q
        unfold enwO
        rw [if_neg (by omega), if_pos q2]
      · have q2 : (if 51 = 42 ∧ 0 ≤ v ∧ v < s.1 8 then (0 : Int) else s.2 51 v) ≠ 0 := q2
        rw [e51] at q2
        have q : s.1 59 ≤ 0 := q
        unfold enwO
        rw [if_neg (by omega), if_neg q2]
      · have q : 0 < s.1 59 := q
        unfold enwO
        rw [if_pos q]
    | succ m ih =>
      intro k k0 hk
      have := ih (k + 1) (by omega) (by omega)
      refine B135_2 ⟨fun q => by have q : s.1 8 ≤ k := q; omega, fun _ => ⟨by omega, by omega, ?_⟩⟩
      refine (eqS rfl (fun y j => ?_) : ua ((s.1, fun f y => if f = 42 ∧ 0 ≤ y ∧ y < k then 0 else s.2 f y) : SM) 42 k 0 = (s.1, fun f y => if f = 42 ∧ 0 ≤ y ∧ y < k + 1 then 0 else s.2 f y)) ▸ this
      rw [ua_2]
      show (if y = 42 ∧ j = k then 0 else if y = 42 ∧ 0 ≤ j ∧ j < k then 0 else s.2 y j) = if y = 42 ∧ 0 ≤ j ∧ j < k + 1 then 0 else s.2 y j
      by_cases e1 : y = 42 ∧ 0 ≤ j ∧ j < k + 1
      · rw [if_pos e1]
        by_cases e2 : y = 42 ∧ j = k
        · rw [if_pos e2]
        · rw [if_neg e2, if_pos (by omega)]
      · rw [if_neg e1, if_neg (by omega), if_neg (by omega)]
  have := key (s.1 8).toNat 0 (by decide) (by omega)
  refine B135 ((eqS rfl (fun y j => ?_) : ((s.1, fun f y => if f = 42 ∧ 0 ≤ y ∧ y < 0 then 0 else s.2 f y) : SM) = s) ▸ this)
  exact if_neg (by omega)
end
end
section
/-! work(n), resume(n). -/
def FBK (s : SM) : Prop := ∀ b, 0 ≤ b → b < s.1 8 → s.2 42 b = 0 ∨ (b < s.2 42 b - 1 ∧ s.2 42 b - 1 < s.1 8)
/-- in which half it is, how far that is used -/
def HB (s : SM) : Prop := (s.1 55 = 0 ∨ s.1 55 = 1) ∧ s.1 52 ≤ 1300 * s.1 55 + 1300 ∧ s.1 54 ≤ 640 * s.1 55 + 640
/-- the result's row -/
def VH (s : SM) (V : Term) : Prop := isV V = true ∧ VR s (1300 * s.1 55) (s.1 52) (640 * s.1 55) (s.1 54) V (s.1 62)
/-- nodes and their reasons when it was last worked -/
def WLs (s : SM) (W : List (Int × Int)) : Prop := s.1 63 = W.length ∧ W.length ≤ 60 ∧ ∀ (k : Nat) (a : Int × Int), W[k]? = some a → s.2 64 k = a.1 ∧ s.2 65 k = a.2
def outE (R : RS) : Int := if R.2.1 = 0 then (if hsL R.2.2.2 = true then 1 else 0) else R.2.1
def wrL (s : SM) (t : Term) : List (Int × Int) := (fl t).map (fun x => (x, (jdg s t).2.2 x))
def WDN (s : SM) (t : Term) (R : RS) (hf : Int) (w : SM) : Prop := SX [35, 52, 54, 55, 56, 57, 58, 59, 60, 61, 62, 63] [42, 46, 47, 48, 49, 50, 51, 53, 64, 65] s w ∧ (w.1 35 = 0 ∧ w.1 55 = hf ∧ w.1 56 = R.1 ∧ w.1 60 = R.2.2.1 ∧ w.1 61 = outE R) ∧ ((∀ y, 0 ≤ y → y < s.1 8 → w.2 42 y = 0) ∧ ∀ y, s.1 8 ≤ y → w.2 42 y = s.2 42 y) ∧ WLs w (wrL s t) ∧ (R.2.1 = 0 → HB w ∧ VH w R.2.2.2 ∧ VN s t R.2.2.2)
theorem VG_cg {s w : SM} {t t' : Term} {g g' : Int → Int} (h8 : s.1 8 ≤ w.1 8) (hm : ∀ x, x ∈ fl t → x ∈ fl t' ∧ w.2 9 x = s.2 9 x ∧ ∀ E, cov s x E → cov w x E) (hg : ∀ b, g b ∈ fl t → 0 ≤ b → b < s.1 8 → g' b ∈ fl t' ∧ (∀ E, cov s (g b) E → cov w (g' b) E) ∧ (g' b = b → g b = b ∧ w.2 9 b = s.2 9 b)) : ∀ (n : Nat) (V : Term), SizeOf.sizeOf V < n → VG s t g V → VG w t' g' V := by
  intro n
  induction n with
  | zero => intro V h; omega
  | succ n ih =>
    intro V hn h
    cases V with
    | sub d E =>
      cases d with
      | index d =>
        obtain ⟨⟨h1, h2⟩, h3, h4, h5⟩ := h
        obtain ⟨m1, m2, m3⟩ := hm _ h1
        exact ⟨⟨m1, m2.trans h2⟩, m3 E h3, h4, ih E (by simp at hn; omega) h5⟩
      | _ => exact h.elim
    | add A B => exact ⟨⟨h.1.1, ih A (by simp at hn; omega) h.1.2⟩, h.2.1, ih B (by simp at hn; omega) h.2.2⟩
    | div d E =>
      cases d with
      | index b =>
        obtain ⟨⟨h1, h2, h3⟩, h4, h5, h6⟩ := h
        obtain ⟨m1, m2, m3⟩ := hg b h2 (by omega) h1
        exact ⟨⟨by omega, m1, fun q => by obtain ⟨q1, q2⟩ := m3 q; rw [q2]; exact h3 q1⟩, m2 E h4, h5, ih E (by simp at hn; omega) h6⟩
      | _ => exact h.elim
    | length A => exact ⟨h.1, ih A (by simp at hn; omega) h.2⟩
    | rem b q =>
      cases b with
      | index b =>
        cases q with
        | elem A q =>
          cases q with
          | elem B E =>
            obtain ⟨⟨b1, a1, a2⟩, hc⟩ := h
            obtain ⟨m1, m2, m3⟩ := hm _ b1
            refine ⟨⟨m1, a1, ih A (by simp at hn; omega) a2⟩, ?_⟩
            rw [m2]
            rcases hc with ⟨c1, c2, c3, c4⟩ | ⟨c1, c2, c3, c4, c5⟩ | c
            · exact Or.inl ⟨c1, c2, ih B (by simp at hn; omega) c3, c4⟩
            · exact Or.inr (Or.inl ⟨c1, c2, c3, m3 E c4, ih E (by simp at hn; omega) c5⟩)
            · exact Or.inr (Or.inr c)
          | _ => exact h.elim
        | _ => exact h.elim
      | _ => exact h.elim
    | mul r x =>
      have h : VG s t g r ∧ (x = .null ∨ (isV x = true ∧ VG s t g x)) := h
      exact ⟨ih r (by simp at hn; omega) h.1, h.2.imp id (fun q => ⟨q.1, ih x (by simp at hn; omega) q.2⟩)⟩
    | int z => trivial
    | arg z => exact h
    | index z => exact h
    | null => trivial
    | _ => exact h.elim
theorem VG_e {s w : SM} {t : Term} {g : Int → Int} (h8 : w.1 8 = s.1 8) (h9 : w.2 9 = s.2 9) (h10 : w.2 10 = s.2 10) (h12 : w.2 12 = s.2 12) (h13 : w.2 13 = s.2 13) {V : Term} (h : VG s t g V) : VG w t g V := by
  have hc : ∀ x E, cov s x E → cov w x E := fun x E hE y y0 y1 hy => hE y y0 y1 (by
    show bnd (s.2 9) (s.2 10) (s.2 12) (s.2 13) 70 x y ≠ -9
    rw [← h9, ← h10, ← h12, ← h13]
    exact hy)
  exact VG_cg (by omega) (fun x hx => ⟨hx, by rw [h9], hc x⟩) (fun b hb _ _ => ⟨hb, hc _, fun q => ⟨q, by rw [h9]⟩⟩) (SizeOf.sizeOf V + 1) V (Nat.lt_succ_self _) h
theorem nulE_VG {s : SM} {t : Term} {g : Int → Int} : ∀ n : Nat, VG s t g (nulE n) := by
  intro n
  induction n with
  | zero => trivial
  | succ n ih => exact ⟨ih, Or.inl rfl⟩
section
variable {iv : List (Int × Int)} {L : Nat} {h0 : MH} {s : SM} {t : Term} {d : Nat}
/-- where working begins: its ground -/
theorem BGW_X {σ : SM} {n hf : Int} (h : AFT s t) (hFB : FBK s) (hn : 0 ≤ n ∧ n ≤ 300) (hh : hf = 0 ∨ hf = 1) (hσ : BGW s t n hf σ) : WCX σ t n (1300 * hf) (640 * hf) := by
  obtain ⟨e1, x1, v1, v2, -⟩ := hσ
  have h' := h.x x1 (by decide) (by decide)
  refine ⟨⟨h'.1, h'.2.1, fun y hy h3 hr => ?_⟩, v1.2.2.2.2.1, hn, ⟨by rw [v1.1]; exact hh, by rw [v1.1]; omega, by rw [v1.1]; omega⟩, fun b b0 b1 => ?_⟩
  · intro hb
    refine hr ?_
    rw [v2 y hy]
    have e9 : σ.2 9 = s.2 9 := e1.2 9 (by decide)
    have e10 : σ.2 10 = s.2 10 := e1.2 10 (by decide)
    refine jd_nm (dpt t) t (Nat.le_refl _) h.1.1 h.1.2.2.1 y hy (by rw [← e9]; exact h3) ?_ none J0
    show bnd (s.2 9) (s.2 10) (s.2 12) (s.2 13) 70 y (s.2 10 y) = -9
    rw [← e9, ← e10, ← e1.2 12 (by decide), ← e1.2 13 (by decide)]
    exact hb
  · rw [e1.2 42 (by decide)]
    rw [e1.1 8 (by decide)] at b1 ⊢
    exact hFB b b0 b1
theorem BGW_S {σ : SM} {n hf : Int} (hn : 0 ≤ n ∧ n ≤ 300) (hh : hf = 0 ∨ hf = 1) (hσ : BGW s t n hf σ) : WS σ n (1300 * hf) (640 * hf) 60 0 8 σ := by
  obtain ⟨e1, x1, v1, v2, -⟩ := hσ
  refine ⟨eqx.rf, ⟨v1.2.2.2.1, ?_, v1.2.2.2.2.2.2.1, v1.2.2.2.2.2.2.2⟩, ⟨Int.le_refl _, hn.1⟩, ⟨?_, ?_⟩, ?_, ?_⟩
  · rw [v1.2.2.2.2.2.1]; rfl
  · rw [v1.2.1]; exact Int.le_refl _
  · rw [v1.2.1, v1.1]; omega
  · rw [v1.2.2.1]; exact Int.le_refl _
  · rw [v1.2.2.1, v1.1]; omega
/-- the end of work() and resume() -/
theorem fin_ok {σ w : SM} {n hf r : Int} {R : RS} {F : Int → SM → Prop} (h : AFT s t) (hn : 0 ≤ n ∧ n ≤ 300) (hh : hf = 0 ∨ hf = 1) (hσ : BGW s t n hf σ) (hw : FRM σ w) (hc : (1300 * hf ≤ w.1 52 ∧ w.1 52 ≤ 1300 * hf + 610) ∧ 640 * hf ≤ w.1 54 ∧ w.1 54 ≤ 640 * hf + 620) (hx : w.1 56 = R.1 ∧ w.1 59 = R.2.1 ∧ w.1 60 = R.2.2.1) (hR : (R.2.1 = 0 ∨ (2 ≤ R.2.1 ∧ R.2.1 ≤ 4)) ∧ (R.2.1 = 0 → isV R.2.2.2 = true ∧ VN σ t R.2.2.2)) (hV : R.2.1 = 0 → VR w (1300 * hf) (w.1 52) (640 * hf) (w.1 54) R.2.2.2 r) (hF : ∀ v, WDN s t R hf v → F (outE R) v) : cm iv L h0 d 135 [vr 307, vi r] w (qi F) := by
  obtain ⟨e1, x1, v1, v2, v3, v4⟩ := hσ
  have h8 : w.1 8 = s.1 8 := (hw.1.1 8 (by decide)).trans (e1.1 8 (by decide))
  have w55 : w.1 55 = hf := (hw.1.1 55 (by decide)).trans v1.1
  have hB := h.1.2.2.2.2.1
  have kd : R.2.1 = 0 → (0 ≤ r ∧ r < 2600) ∧ w.2 51 r = if hsL R.2.2.2 = true then 1 else 0 := fun q => by
    obtain ⟨k1, k2, k3⟩ := VR_kind (hR.2 q).1 (hV q)
    exact ⟨by omega, k3⟩
  have eo : enwO w r = outE R := by
    unfold enwO outE
    rw [hx.2.1]
    by_cases q : R.2.1 = 0
    · rw [if_neg (by omega), if_pos q, (kd q).2]
      cases hsL R.2.2.2 <;> simp
    · have := hR.1.resolve_left q
      rw [if_pos (by omega), if_neg q]
  refine endWork_ok (by omega) (fun q => (kd (by rw [hx.2.1] at q; have := hR.1; omega)).1) ?_
  rw [eo]
  have r42 : ∀ f, f ≠ 42 → (enwU w r (outE R)).2 f = w.2 f := fun f hf => by
    funext y
    exact if_neg (fun q => hf q.1)
  have n1 : ∀ y, y ≠ 62 → y ≠ 35 → y ≠ 61 → (enwU w r (outE R)).1 y = w.1 y := fun y a b c => by
    show (if y = 62 then r else if y = 35 then 0 else if y = 61 then outE R else w.1 y) = w.1 y
    rw [if_neg a, if_neg b, if_neg c]
  refine hF _ ⟨⟨fun y a1 a2 => ?_, fun f a1 a2 i a3 => ?_⟩, ⟨rfl, ?_, ?_, ?_, rfl⟩, ⟨fun y y0 y1 => ?_, fun y y0 => ?_⟩, ⟨?_, ?_, fun k a hk => ?_⟩, fun q => ⟨⟨?_, ?_, ?_⟩, ⟨(hR.2 q).1, ?_⟩, ?_⟩⟩
  · simp at a2
    rw [n1 y (by omega) (by omega) (by omega), hw.1.1 y (by simp; omega)]
    exact x1.1 y a1 (by simp; omega)
  · simp at a2
    rw [r42 f (by omega), hw.1.2 f (by simp; omega)]
    exact x1.2 f a1 (by simp; omega) i a3
  · rw [n1 55 (by decide) (by decide) (by decide)]; exact w55
  · rw [n1 56 (by decide) (by decide) (by decide)]; exact hx.1
  · rw [n1 60 (by decide) (by decide) (by decide)]; exact hx.2.2
  · exact if_pos ⟨rfl, y0, by rw [h8]; exact y1⟩
  · show (if (42 : Nat) = 42 ∧ 0 ≤ y ∧ y < w.1 8 then 0 else w.2 42 y) = s.2 42 y
    rw [if_neg (by omega), hw.1.2 42 (by decide), e1.2 42 (by decide)]
  · rw [n1 63 (by decide) (by decide) (by decide), hw.1.1 63 (by decide), v3]
    unfold wrL; simp
  · unfold wrL
    rw [List.length_map]
    exact h.1.2.2.2.1
  · rw [r42 64 (by decide), r42 65 (by decide), hw.1.2 64 (by decide), hw.1.2 65 (by decide)]
    unfold wrL at hk
    rw [List.getElem?_map] at hk
    cases hx2 : (fl t)[k]? with
    | none => rw [hx2] at hk; cases hk
    | some x =>
      rw [hx2] at hk
      cases hk
      exact v4 k x hx2
  · rw [n1 55 (by decide) (by decide) (by decide), w55]; exact hh
  · rw [n1 55 (by decide) (by decide) (by decide), n1 52 (by decide) (by decide) (by decide), w55]; omega
  · rw [n1 55 (by decide) (by decide) (by decide), n1 54 (by decide) (by decide) (by decide), w55]; omega
  · rw [n1 55 (by decide) (by decide) (by decide), n1 52 (by decide) (by decide) (by decide), n1 54 (by decide) (by decide) (by decide), w55]
    exact VR_k (hV q) ⟨fun f _ hf _ _ => by rw [r42 f (by omega)], fun _ _ _ => by rw [r42 53 (by decide)]⟩ (Int.le_refl _) (Int.le_refl _)
  · exact VG_e (e1.1 8 (by decide)).symm (e1.2 9 (by decide)).symm (e1.2 10 (by decide)).symm (e1.2 12 (by decide)).symm (e1.2 13 (by decide)).symm (hR.2 q).2
theorem work_ok {n : Int} {F : Int → SM → Prop} (h : AFT s t) (hK : KIs s) (hFB : FBK s) (hD : 300 ≤ d) (H1 : ¬ (0 ≤ n ∧ n ≤ 300) → F (-1) s) (H2 : ∀ σ v, 0 ≤ n ∧ n ≤ 300 → BGW s t n 0 σ → WDN s t ((EV σ n 60).1 (s.1 15) (nulE 26) 0) 0 v → F (outE ((EV σ n 60).1 (s.1 15) (nulE 26) 0)) v) : cm iv L h0 d 136 [vr 307, vi n] s (qi F) := by
  obtain ⟨d, rfl⟩ : ∃ k, d = k + 1 := ⟨d - 1, by omega⟩
  refine B136 ⟨fun hn => beginWork_ok h.1 h.2.1 hK (by omega) (Or.inl rfl) (fun σ hσ => ?_), fun hn => H1 (by omega)⟩
  have hX := BGW_X h hFB hn (Or.inl rfl) hσ
  have hS := BGW_S hn (Or.inl rfl) hσ
  have v1 := hσ.2.2.1
  have H3 := H2 σ
  refine newEnv_ok (by rw [v1.2.2.1]; decide) (Or.inl rfl) (fun w hw => ?_)
  obtain ⟨w1, w2, w3, w4⟩ := hw
  rw [v1.2.2.1] at w2 w3 w4 ⊢
  have w52 : w.1 52 = 0 := (w1.1 52 (by decide)).trans v1.2.1
  have w15 : w.1 15 = s.1 15 := (w1.1 15 (by decide)).trans (hσ.1.1 15 (by decide))
  have fr : FRM σ w := ⟨w1.up (by decide) (by decide), fun f v hf _ => by rw [w1.2 f (by simp; omega)], fun j hj => w3 j (by rw [v1.2.2.1, w2] at hj; omega)⟩
  rw [w15]
  have hSw : WS σ n 0 0 60 0 0 w := ⟨hS.1.tr fr.1, ⟨by rw [w1.1 56 (by decide)]; exact v1.2.2.2.1, by rw [w1.1 58 (by decide)]; exact hS.2.1.2.1, by rw [w1.1 59 (by decide)]; exact v1.2.2.2.2.2.2.1, by rw [w1.1 60 (by decide)]; exact v1.2.2.2.2.2.2.2⟩, hS.2.2.1, ⟨by omega, by rw [v1.1]; omega⟩, by omega, by rw [v1.1]; omega⟩
  have top := top_mem h.1
  have bT : ∀ x, bds σ (s.1 15) x = -9 := fun x => by
    have e12 : σ.2 12 = s.2 12 := hσ.1.2 12 (by decide)
    show bnd (σ.2 9) (σ.2 10) (σ.2 12) (σ.2 13) 70 (s.1 15) x = -9
    unfold bnd
    rw [e12, if_pos (by rw [← h.1.2.2.2.2.2.1]; exact h.1.2.2.2.2.2.2.1)]
  have cv : cov σ (s.1 15) (nulE 26) := fun x _ _ hx => absurd (bT x) hx
  have hRO := EV_okw hX 60 (s.1 15) (nulE 26) 0 top (nulE_is 26) (nulE_VG 26) cv hn.1
  have wco := WCO_all (iv := iv) (L := L) (h0 := h0) hX 60 (Nat.le_refl _) (s.1 15) 0 0 (nulE 26) w top (nulE_is 26) (nulE_VG 26) cv ((VR_E 26 _ 0 (nulE_is 26) (Nat.le_refl _)).mpr ⟨by omega, fun x x0 x1 => Or.inl ⟨nulE_lk 26 x, by have := w4 x x0 x1; rw [if_pos rfl] at this; rw [show 26 * (0 : Int) + x = 26 * 0 + x from rfl]; exact this⟩⟩) hSw
  refine wci_mono wco (by omega) (fun r u hu => ?_)
  have r1 := hRO.1
  refine fin_ok h hn (Or.inl rfl) hσ (fr.tr hu.1 ⟨by rw [v1.2.1, w52]; exact Int.le_refl _, hu.2.1.1⟩ ⟨by rw [v1.2.2.1]; omega, hu.2.2.1.1⟩) ?_ ⟨hu.2.2.2.1.1, hu.2.2.2.1.2.2.1, hu.2.2.2.1.2.2.2⟩ ⟨hRO.2.1, fun q => (hRO.2.2 q).2⟩ (fun q => hu.2.2.2.2 q) (fun v hv => H3 v hn hσ hv)
  have a1 := hu.2.1
  have a2 := hu.2.2.1
  omega
end
end
section
/-! areReasonsSame(), resume(n). -/
def arP (s : SM) (t : Term) (l : List Int) (p : Int × Int) : Bool := l.all fun x => decide (x = p.1 → (jdg s t).2.2 x = p.2)
/-- are the reasons those of the last working, for what stands in both -/
def arS (s : SM) (t : Term) (W : List (Int × Int)) : Bool := W.all (arP s t (fl t))
section
variable {iv : List (Int × Int)} {L : Nat} {h0 : MH} {s : SM} {t : Term} {d : Nat}
theorem same_row {w : SM} {k : Nat} {a : Int × Int} {F : Int → SM → Prop} (h : SHT s t) (hw : JL s w t) (hk : k < 60) (ha : w.2 64 k = a.1 ∧ w.2 65 k = a.2) : ∀ (m p : List Int), fl t = p ++ m → (arP s t m a = false → F 0 w) → (arP s t m a = true → wm iv L h0 (d + 1) 137 10 [lr 307, li (k + 1)] [] w (qi F)) → wm iv L h0 (d + 1) 137 20 [lr 307, li k, li p.length] [] w (qi F) := by
  obtain ⟨w1, w2, w3, w4, -⟩ := hw
  intro m
  induction m with
  | nil =>
    intro p e H0 H1
    have hl := LR_nil w3 e
    exact B137_20 ⟨fun _ => ⟨by omega, H1 rfl⟩, fun q => by omega⟩
  | cons y m ih =>
    intro p e H0 H1
    obtain ⟨c1, c2⟩ := LR_cons w3 e
    obtain ⟨c3, hy⟩ := h.fl80 e
    have hyl := h.lt hy
    have e' := e
    rw [app1] at e'
    have el : ((p ++ [y]).length : Int) = p.length + 1 := by simp
    have hg := (w4 y hy).1
    have ec : arP s t (y :: m) a = (decide (y = a.1 → (jdg s t).2.2 y = a.2) && arP s t m a) := rfl
    rw [ec] at H0 H1
    have go : (y = a.1 → (jdg s t).2.2 y = a.2) → wm iv L h0 (d + 1) 137 20 [lr 307, li k, li (p.length + 1)] [] w (qi F) := fun q => by
      rw [decide_eq_true q] at H0 H1
      have := ih (p ++ [y]) e' H0 H1
      rw [el] at this
      exact this
    refine B137_20 ⟨fun q => by omega, fun _ => ?_⟩
    rw [c1, ha.1, ha.2, hg]
    refine ⟨by omega, by omega, fun q => ⟨by omega, go (fun q2 => absurd q2 q)⟩, fun q => ⟨by omega, fun q2 => ⟨by omega, go (fun _ => q2)⟩, fun q2 => H0 ?_⟩⟩
    rw [decide_eq_false (fun q3 => q2 (q3 q))]
    rfl
theorem same_ok {W : List (Int × Int)} {F : Int → SM → Prop} (h : SHT s t) (hN : NB s) (hK : KIs s) (hW : WLs s W) (hD : 240 ≤ d) (hF : ∀ w, JL s w t → F (if arS s t W = true then 1 else 0) w) : cm iv L h0 d 137 [vr 307] s (qi F) := by
  obtain ⟨d, rfl⟩ : ∃ k, d = k + 1 := ⟨d - 1, by omega⟩
  refine B137 (jl_ok h hN hK (by omega) (by omega) (fun w hw => ?_))
  have e63 : w.1 63 = s.1 63 := hw.1.1 63 (by decide)
  have e64 : w.2 64 = s.2 64 := hw.1.2 64 (by decide)
  have e65 : w.2 65 = s.2 65 := hw.1.2 65 (by decide)
  obtain ⟨a1, a2, a3⟩ := hW
  have hF := hF w hw
  unfold arS at hF
  have key : ∀ (m p : List (Int × Int)), W = p ++ m → F (if m.all (arP s t (fl t)) = true then 1 else 0) w → wm iv L h0 (d + 1) 137 10 [lr 307, li p.length] [] w (qi F) := by
    intro m
    induction m with
    | nil =>
      intro p e H
      have hl : W.length = p.length := by rw [e]; simp
      exact B137_10 ⟨fun _ => H, fun q => by omega⟩
    | cons a m ih =>
      intro p e H
      have hl : W.length = p.length + (m.length + 1) := by rw [e]; simp
      have hk : W[p.length]? = some a := by rw [e]; simp
      have el : ((p ++ [a]).length : Int) = p.length + 1 := by simp
      have e' : W = (p ++ [a]) ++ m := by rw [e]; simp
      have r := a3 p.length a hk
      rw [← e64, ← e65] at r
      have ec : (a :: m).all (arP s t (fl t)) = (arP s t (fl t) a && m.all (arP s t (fl t))) := rfl
      rw [ec] at H
      refine B137_10 ⟨fun q => by omega, fun _ => same_row h hw (by omega) r (fl t) [] rfl (fun q => ?_) (fun q => ?_)⟩
      · rw [q] at H
        exact H
      · rw [q] at H
        have := ih (p ++ [a]) e' H
        rw [el] at this
        exact this
  exact key W [] rfl hF
end
end
section
/-! resume(n). -/
section
variable {iv : List (Int × Int)} {L : Nat} {h0 : MH} {s : SM} {t : Term} {d : Nat}
theorem BGW_J {w σ : SM} {n hf : Int} (h : AFT s t) (hK : KIs s) (hw : JL s w t) (hσ : BGW w t n hf σ) : BGW s t n hf σ := by
  obtain ⟨w1, w2, -⟩ := hw
  obtain ⟨s1, s2, s3, s4, s5, s6⟩ := hσ
  have ej : jdg w t = jdg s t := jdg_x h.1 (h.1.x w2 (by decide) (by decide)) h.2.1 hK w2 (by decide) (by decide)
  rw [ej] at s4 s6
  exact ⟨(w1.up (fun y q => by simp at q ⊢; omega) (fun y q => by simp at q ⊢; omega)).tr s1, (w2.up (fun y q => by cases q) (fun y q => by cases q)).tr s2, s3, s4, s5, s6⟩
theorem WDN_J {w v : SM} {R : RS} {hf : Int} (h : AFT s t) (hK : KIs s) (hw : JL s w t) (hv : WDN w t R hf v) : WDN s t R hf v := by
  obtain ⟨w1, w2, -⟩ := hw
  obtain ⟨v1, v2, v3, v4, v5⟩ := hv
  have ej : jdg w t = jdg s t := jdg_x h.1 (h.1.x w2 (by decide) (by decide)) h.2.1 hK w2 (by decide) (by decide)
  have e8 : w.1 8 = s.1 8 := w1.1 8 (by decide)
  refine ⟨(w2.up (fun y q => by cases q) (fun y q => by cases q)).tr v1, v2, ⟨fun y y0 y1 => v3.1 y y0 (by omega), fun y y0 => (v3.2 y (by omega)).trans (by rw [w1.2 42 (by decide)])⟩, ?_, fun q => ⟨(v5 q).1, (v5 q).2.1, ?_⟩⟩
  · unfold wrL at v4 ⊢
    rw [ej] at v4
    exact v4
  · exact VG_e e8.symm (w1.2 9 (by decide)).symm (w1.2 10 (by decide)).symm (w1.2 12 (by decide)).symm (w1.2 13 (by decide)).symm (v5 q).2.2
theorem tgt_e {w : SM} (e : w.2 42 = s.2 42) : tgt w t = tgt s t := by
  funext b
  unfold tgt
  rw [e]
theorem res_core {V : Term} {n v0 : Int} {F : Int → SM → Prop} (h : AFT s t) (hK : KIs s) (hFB : FBK s) (hD : 300 ≤ d) (hn : 0 ≤ n ∧ n ≤ 300) (hB : HB s) (hV : isV V = true ∧ VR s (1300 * s.1 55) (s.1 52) (640 * s.1 55) (s.1 54) V v0) (hO : VO s t V) (hN : FN s t) (H : ∀ σ v, BGW s t n (1 - s.1 55) σ → WDN s t ((EV σ n 60).2 V 0) (1 - s.1 55) v → F (outE ((EV σ n 60).2 V 0)) v) : cm iv L h0 d 134 [vr 307, vi n, vi (1 - s.1 55)] s (qv fun s4 => cm iv L h0 d 132 [vr 307, vi v0] s4 (qi fun r6 s5 => cm iv L h0 d 135 [vr 307, vi r6] s5 (qi fun r8 s7 => F r8 s7))) := by
  obtain ⟨b1, b2, b3⟩ := hB
  have hh : 1 - s.1 55 = 0 ∨ 1 - s.1 55 = 1 := by omega
  refine beginWork_ok h.1 h.2.1 hK (by omega) hh (fun σ hσ => ?_)
  have hX := BGW_X h hFB hn hh hσ
  have hS := BGW_S hn hh hσ
  have H' := H σ
  have v1 := hσ.2.2.1
  have e1 := hσ.1
  have e42 : σ.2 42 = s.2 42 := e1.2 42 (by decide)
  have hFN : FN σ t := fun y hy hs => by
    rw [e42]
    exact hN y hy (by rw [← e1.2 9 (by decide)]; exact hs)
  have hOσ : VO σ t V := by
    show VG σ t (tgt σ t) V
    rw [tgt_e e42]
    exact VG_e (e1.1 8 (by decide)) (e1.2 9 (by decide)) (e1.2 10 (by decide)) (e1.2 12 (by decide)) (e1.2 13 (by decide)) hO
  have hVσ : VR σ (1300 * s.1 55) (s.1 52) (640 * s.1 55) (s.1 54) V v0 := VR_k hV.2 ⟨fun f v hf _ _ => by rw [e1.2 f (by simp; omega)], fun _ _ _ => by rw [e1.2 53 (by decide)]⟩ (Int.le_refl _) (Int.le_refl _)
  have hOL : OLDH σ (1300 * s.1 55) (s.1 52) (640 * s.1 55) (s.1 54) := by
    unfold OLDH
    rw [v1.1]
    omega
  have hRO := (EV_ok hX hFN 60).2 V 0 hV.1 hOσ hn.1
  have oca := OCA_all (iv := iv) (L := L) (h0 := h0) hFN hOL 60 (Nat.le_refl _) _ _ v0 0 V σ hX hV.1 hOσ hVσ (hS.up (by decide))
  refine wci_mono oca (by omega) (fun r u hu => ?_)
  obtain ⟨⟨u1, u2, u3, u4, u5⟩, -⟩ := hu
  generalize (EV σ n 60).2 V 0 = R at *
  have r1 := hRO.1
  refine fin_ok h hn hh hσ u1 ?_ ⟨u4.1, u4.2.2.1, u4.2.2.2⟩ ⟨hRO.2.1, fun q => (hRO.2.2 q).2⟩ u5 (fun v hv => H' v hσ hv)
  omega
/-- what is to be known of the last working -/
def RSM (s : SM) (t : Term) (V : Term) : Prop := (s.1 61 = 0 ∨ s.1 61 = 1) → s.1 35 = 0 → HB s ∧ VH s V ∧ VO s t V ∧ FN s t
theorem resume_ok {V : Term} {W : List (Int × Int)} {n : Int} {F : Int → SM → Prop} (h : AFT s t) (hK : KIs s) (hFB : FBK s) (hD : 301 ≤ d) (hW : WLs s W) (hV : RSM s t V) (H1 : ¬ (0 ≤ n ∧ n ≤ 300) → F (-1) s) (H2 : (0 ≤ n ∧ n ≤ 300) → ¬ ((s.1 61 = 0 ∨ s.1 61 = 1) ∧ s.1 35 = 0) → F (-4) s) (H3 : ∀ w, (0 ≤ n ∧ n ≤ 300) → (s.1 61 = 0 ∨ s.1 61 = 1) ∧ s.1 35 = 0 → arS s t W = false → JL s w t → F (-4) w) (H4 : ∀ σ v, (0 ≤ n ∧ n ≤ 300) → (s.1 61 = 0 ∨ s.1 61 = 1) ∧ s.1 35 = 0 → arS s t W = true → BGW s t n (1 - s.1 55) σ → WDN s t ((EV σ n 60).2 V 0) (1 - s.1 55) v → F (outE ((EV σ n 60).2 V 0)) v) : cm iv L h0 d 138 [vr 307, vi n] s (qi F) := by
  obtain ⟨d, rfl⟩ : ∃ k, d = k + 1 := ⟨d - 1, by omega⟩
  have main : (0 ≤ n ∧ n ≤ 300) → (s.1 61 = 0 ∨ s.1 61 = 1) ∧ s.1 35 = 0 → cm iv L h0 d 137 [vr 307] s (qi fun r2 s1 => ((r2 ≠ 0 → (-2147483648 ≤ 1 - (s1.1 55) ∧ 1 - (s1.1 55) ≤ 2147483647) ∧ cm iv L h0 d 134 [vr 307, vi n, vi (1 - (s1.1 55))] s1 (qv fun s4 => cm iv L h0 d 132 [vr 307, vi (s1.1 62)] s4 (qi fun r6 s5 => cm iv L h0 d 135 [vr 307, vi r6] s5 (qi fun r8 s7 => F r8 s7)))) ∧ (r2 = 0 → F (-4) s1))) := by
    intro hn hq
    obtain ⟨hB, hVH, hO, hN⟩ := hV hq.1 hq.2
    refine same_ok h.1 h.2.1 hK hW (by omega) (fun w hw => ?_)
    have w1 := hw.1
    have w2 := hw.2.1
    have e55 : w.1 55 = s.1 55 := w1.1 55 (by decide)
    have e52 : w.1 52 = s.1 52 := w1.1 52 (by decide)
    have e54 : w.1 54 = s.1 54 := w1.1 54 (by decide)
    have e62 : w.1 62 = s.1 62 := w1.1 62 (by decide)
    have e42 : w.2 42 = s.2 42 := w1.2 42 (by decide)
    have e8 : w.1 8 = s.1 8 := w1.1 8 (by decide)
    have h' : AFT w t := h.x w2 (by decide) (by decide)
    have hB' : HB w := by unfold HB; rw [e55, e52, e54]; exact hB
    have hFB' : FBK w := by unfold FBK; rw [e8, e42]; exact hFB
    have hVw : isV V = true ∧ VR w (1300 * w.1 55) (w.1 52) (640 * w.1 55) (w.1 54) V (w.1 62) := by
      rw [e55, e52, e54, e62]
      exact ⟨hVH.1, VR_k hVH.2 ⟨fun f v hf _ _ => by rw [w1.2 f (by simp; omega)], fun _ _ _ => by rw [w1.2 53 (by decide)]⟩ (Int.le_refl _) (Int.le_refl _)⟩
    have hO' : VO w t V := by
      show VG w t (tgt w t) V
      rw [tgt_e e42]
      exact VG_e e8 (w1.2 9 (by decide)) (w1.2 10 (by decide)) (w1.2 12 (by decide)) (w1.2 13 (by decide)) hO
    have hN' : FN w t := fun y hy hs => by
      rw [e42]
      exact hN y hy (by rw [← w1.2 9 (by decide)]; exact hs)
    have hB1 := hB.1
    refine ⟨fun q => ⟨by omega, ?_⟩, fun q => H3 w hn hq (by
      cases e : arS s t W with
      | true => rw [e] at q; simp at q
      | false => rfl) hw⟩
    have ea : arS s t W = true := by
      cases e : arS s t W with
      | false => rw [e] at q; simp at q
      | true => rfl
    refine res_core h' (KI_x hK w2 (by decide) (by decide)) hFB' (by omega) hn hB' hVw hO' hN' (fun σ v hσ hv => ?_)
    rw [e55] at hσ hv
    exact H4 σ v hn hq ea (BGW_J h hK hw hσ) (WDN_J h hK hw hv)
  refine B138 ⟨fun hn => ⟨fun q => ⟨fun p => H2 hn (fun c => p c.2), fun p => main hn ⟨Or.inl q, p⟩⟩, fun q => ⟨fun p => H2 hn (fun c => by omega), fun p => ⟨fun p2 => H2 hn (fun c => p2 c.2), fun p2 => main hn ⟨Or.inr p, p2⟩⟩⟩⟩, fun hn => H1 (by omega)⟩
end
end
section
/-! Writing: bytes, numbers, words. -/
def outB (o : List Int) (x : Int) : List Int := if 400 ≤ o.length then o else o ++ [w8 x]
def dgs : Nat → Int → List Int
  | 0, _ => []
  | k + 1, z => z % 10 :: (if 0 < z / 10 then dgs k (z / 10) else [])
def p10 : Nat → Int
  | 0 => 1
  | k + 1 => 10 * p10 k
def outN (z : Int) (o : List Int) : List Int := ((dgs 10 (if z < 0 then -z else z)).reverse).foldl (fun o x => outB o (48 + x)) (if z < 0 then outB o 45 else o)
def outW (a : Nat) (o : List Int) : List Int := (strT a).foldl (fun o c => outB o c.toInt) o
/-- the bytes written -/
def BY (w : SM) (o : List Int) : Prop := (w.1 67 = o.length ∧ o.length ≤ 400) ∧ ∀ (k : Nat) (x : Int), o[k]? = some x → w.2 66 k = x
def DG (w : SM) (D : List Int) : Prop := ∀ (k : Nat) (x : Int), D[k]? = some x → w.2 70 k = x
theorem w8_b (z : Int) : -128 ≤ w8 z ∧ w8 z ≤ 127 := by
  have h1 := Int8.le_toInt (Int8.ofInt z)
  have h2 := Int8.toInt_lt (Int8.ofInt z)
  unfold w8
  omega
theorem outB_len (o : List Int) (x : Int) : o.length ≤ (outB o x).length ∧ (o.length < 400 → (outB o x).length = o.length + 1) ∧ ((outB o x).length ≤ 400 ∨ 400 < o.length) := by
  unfold outB
  split
  · omega
  · simp; omega
theorem app_at {α : Type} {l : List α} {x y : α} {k : Nat} (h : (l ++ [x])[k]? = some y) : l[k]? = some y ∨ (k = l.length ∧ y = x) := by
  by_cases hk : k < l.length
  · rw [List.getElem?_append_left hk] at h
    exact Or.inl h
  · rw [List.getElem?_append_right (by omega)] at h
    have := (List.getElem?_eq_some_iff.mp h).1
    simp at this
    have e : k = l.length := by omega
    subst e
    simp at h
    exact Or.inr ⟨rfl, h.symm⟩
section
variable {iv : List (Int × Int)} {L : Nat} {h0 : MH} {s : SM} {d : Nat}
theorem out_ok {x : Int} {o : List Int} {F : SM → Prop} (h : BY s o) (hF : ∀ w, eqx [67] [66] s w → BY w (outB o x) → F w) : cm iv L h0 d 141 [vr 307, vi x] s (qv F) := by
  have h1 := h.1
  refine B141 ⟨fun q => hF s eqx.rf ?_, fun q => ⟨by omega, w8_b x, by omega, hF _ (eqx_us (eqx_ua eqx.rf (by decide)) (by decide)) ?_⟩⟩
  · unfold outB
    rw [if_pos (by omega)]
    exact h
  · unfold outB
    rw [if_neg (by omega)]
    refine ⟨⟨?_, by simp; omega⟩, fun k y hk => ?_⟩
    · show s.1 67 + 1 = _
      simp; omega
    · show (if 66 = 66 ∧ (k : Int) = s.1 67 then w8 x else s.2 66 k) = y
      rcases app_at hk with hk | ⟨rfl, rfl⟩
      · have hl := (List.getElem?_eq_some_iff.mp hk).1
        rw [if_neg (by omega)]
        exact h.2 k y hk
      · rw [if_pos ⟨rfl, by omega⟩]
theorem wrd_at {a : Nat} {F : SM → Prop} (ha : 8 ≤ a ∧ a < 8 + NS0) : ∀ (m p : List Int32) (o : List Int) (w : SM), strT a = p ++ m → BY w o → (∀ v, eqx [67] [66] w v → BY v (m.foldl (fun o c => outB o c.toInt) o) → F v) → wm iv L h0 (d + 1) 143 2 [lr 307, lr a, li p.length] [] w (qv F) := by
  intro m
  induction m with
  | nil =>
    intro p o w e h hF
    have el : slen a = p.length := by unfold slen; rw [e]; simp
    exact B143_2 ⟨ha, fun _ => hF w eqx.rf h, fun q => by omega⟩
  | cons c m ih =>
    intro p o w e h hF
    have hb := (str_at (L := L) ha).2
    have el : slen a = p.length + (m.length + 1) := by unfold slen; rw [e]; simp
    have ec : scat a p.length = c.toInt := by unfold scat; rw [e]; simp
    have e' : strT a = (p ++ [c]) ++ m := by rw [e]; simp
    have el2 : ((p ++ [c]).length : Int) = p.length + 1 := by simp
    have hs : slen a ≤ 100 := by unfold slen; omega
    refine B143_2 ⟨ha, fun q => by omega, fun _ => ⟨by omega, ?_⟩⟩
    rw [ec]
    refine out_ok h (fun v v1 v2 => ⟨by omega, ?_⟩)
    have := ih (p ++ [c]) _ v e' v2 (fun u u1 u2 => hF u (v1.tr u1) u2)
    rw [el2] at this
    exact this
theorem word_ok {a : Nat} {o : List Int} {F : SM → Prop} (ha : 8 ≤ a ∧ a < 8 + NS0) (hd : 1 ≤ d) (h : BY s o) (hF : ∀ w, eqx [67] [66] s w → BY w (outW a o) → F w) : cm iv L h0 d 143 [vr 307, vr a] s (qv F) := by
  obtain ⟨d, rfl⟩ : ∃ k, d = k + 1 := ⟨d - 1, by omega⟩
  exact B143 (wrd_at ha (strT a) [] o s rfl h hF)
theorem num53 {F : SM → Prop} : ∀ (m : List Int) (o : List Int) (w : SM), (∀ x, x ∈ m → 0 ≤ x ∧ x ≤ 9) → m.length ≤ 12 → DG w m.reverse → BY w o → (∀ v, eqx [67] [66] w v → BY v (m.foldl (fun o x => outB o (48 + x)) o) → F v) → wm iv L h0 (d + 1) 142 53 [lr 307, ln, ln, ln, ln, li (m.length - 1)] [] w (qv F) := by
  intro m
  induction m with
  | nil =>
    intro o w _ _ _ h hF
    exact B142_53 ⟨fun _ => hF w eqx.rf h, fun q => by simp at q⟩
  | cons x m ih =>
    intro o w hm hl hD h hF
    have el : (((x :: m).length : Nat) : Int) = m.length + 1 := by simp
    have hx := hm x (List.mem_cons_self ..)
    have hlt : m.length + 1 ≤ 12 := by simpa using hl
    have ex : w.2 70 m.length = x := by
      have := hD m.length x (by simp)
      exact this
    rw [el]
    refine B142_53 ⟨fun q => by omega, fun _ => ⟨by omega, ?_⟩⟩
    rw [show (m.length : Int) + 1 - 1 = m.length by omega, ex]
    refine ⟨by omega, out_ok h (fun v v1 v2 => ⟨by omega, ?_⟩)⟩
    refine ih _ v (fun y hy => hm y (List.mem_cons_of_mem _ hy)) (by omega) (fun k y hk => ?_) v2 (fun u u1 u2 => hF u (v1.tr u1) u2)
    rw [v1.2 70 (by decide)]
    refine hD k y ?_
    have hk1 := (List.getElem?_eq_some_iff.mp hk).1
    rw [List.reverse_cons, List.getElem?_append_left hk1]
    exact hk
theorem dgs_in : ∀ (k : Nat) (z x : Int), x ∈ dgs k z → 0 ≤ x ∧ x ≤ 9 := by
  intro k
  induction k with
  | zero => intro z x h; cases h
  | succ k ih =>
    intro z x h
    unfold dgs at h
    rcases List.mem_cons.mp h with rfl | h
    · omega
    · split at h
      · exact ih _ x h
      · cases h
theorem dgs_len : ∀ (k : Nat) (z : Int), (dgs k z).length ≤ k := by
  intro k
  induction k with
  | zero => intro z; exact Nat.le_refl _
  | succ k ih =>
    intro z
    unfold dgs
    split
    · have := ih (z / 10)
      simp; omega
    · simp
theorem p10_le : ∀ k : Nat, k ≤ 10 → 1 ≤ p10 k ∧ p10 k ≤ 10000000000 := by
  intro k hk
  have : k = 0 ∨ k = 1 ∨ k = 2 ∨ k = 3 ∨ k = 4 ∨ k = 5 ∨ k = 6 ∨ k = 7 ∨ k = 8 ∨ k = 9 ∨ k = 10 := by omega
  rcases this with rfl | rfl | rfl | rfl | rfl | rfl | rfl | rfl | rfl | rfl | rfl <;> decide
theorem num19 {F : SM → Prop} : ∀ (k : Nat) (z : Int) (D : List Int) (w : SM), 0 ≤ z → z < p10 (k + 1) → D.length + k ≤ 11 → k + 1 ≤ 10 → DG w D → (∀ v, eqx [] [70] w v → DG v (D ++ dgs (k + 1) z) → wm iv L h0 (d + 1) 142 53 [lr 307, ln, ln, ln, ln, li ((D ++ dgs (k + 1) z).length - 1)] [] v (qv F)) → wm iv L h0 (d + 1) 142 19 [lr 307, ln, ll z, ln, li D.length] [] w (qv F) := by
  intro k
  induction k with
  | zero =>
    intro z D w hz h1 hl hk hD hF
    have e9 : p10 (0 + 1) = 10 := by decide
    have et : z.tdiv 10 = z / 10 := Int.tdiv_eq_ediv_of_nonneg hz
    have ez : z / 10 = 0 := by omega
    have ew : w32 (z - z / 10 * 10) = z % 10 := by rw [ez]; rw [w32_id (by unfold inR; omega)]; omega
    have eg : dgs (0 + 1) z = [z % 10] := by
      unfold dgs
      rw [if_neg (by omega)]
    rw [eg] at hF
    refine B142_19 ?_
    rw [et, ew, ez]
    refine ⟨by unfold inL; omega, by unfold inL; omega, by unfold inL; omega, by omega, by omega, by unfold inL; omega, fun q => ?_, fun _ => ⟨by omega, ?_⟩⟩
    · unfold lcp at q
      simp at q
    · have := hF (ua w 70 D.length (z % 10)) (eqx_ua eqx.rf (by decide)) (fun j y hj => ?_)
      · rw [show (((D ++ [z % 10]).length : Nat) : Int) = D.length + 1 by simp] at this
        exact this
      · show (if 70 = 70 ∧ (j : Int) = D.length then z % 10 else w.2 70 j) = y
        rcases app_at hj with hj | ⟨rfl, rfl⟩
        · have := (List.getElem?_eq_some_iff.mp hj).1
          rw [if_neg (by omega)]
          exact hD j y hj
        · rw [if_pos ⟨rfl, rfl⟩]
  | succ k ih =>
    intro z D w hz h1 hl hk hD hF
    have e9 : p10 (k + 1 + 1) = 10 * p10 (k + 1) := rfl
    have hp := p10_le (k + 1) (by omega)
    have hp2 := p10_le (k + 1 + 1) (by omega)
    have et : z.tdiv 10 = z / 10 := Int.tdiv_eq_ediv_of_nonneg hz
    have ew : w32 (z - z / 10 * 10) = z % 10 := by rw [w32_id (by unfold inR; omega)]; omega
    have eg : dgs (k + 1 + 1) z = z % 10 :: (if 0 < z / 10 then dgs (k + 1) (z / 10) else []) := rfl
    have dg : DG (ua w 70 D.length (z % 10)) (D ++ [z % 10]) := fun j y hj => by
      show (if 70 = 70 ∧ (j : Int) = D.length then z % 10 else w.2 70 j) = y
      rcases app_at hj with hj | ⟨rfl, rfl⟩
      · have := (List.getElem?_eq_some_iff.mp hj).1
        rw [if_neg (by omega)]
        exact hD j y hj
      · rw [if_pos ⟨rfl, rfl⟩]
    have el : (((D ++ [z % 10]).length : Nat) : Int) = D.length + 1 := by simp
    have eln : (D ++ [z % 10]).length = D.length + 1 := by simp
    refine B142_19 ?_
    rw [et, ew]
    refine ⟨by unfold inL; omega, by unfold inL; omega, by unfold inL; omega, by omega, by omega, by unfold inL; omega, fun q => ?_, fun q => ⟨by omega, ?_⟩⟩
    · have q1 : 0 < z / 10 := by
        unfold lcp at q
        split at q
        · assumption
        · split at q <;> omega
      rw [if_pos q1] at eg
      have := ih (z / 10) (D ++ [z % 10]) _ (by omega) (by omega) (by omega) (by omega) dg (fun v v1 v2 => ?_)
      · rw [el] at this
        exact this
      · have e3 : D ++ [z % 10] ++ dgs (k + 1) (z / 10) = D ++ dgs (k + 1 + 1) z := by rw [eg]; simp
        rw [e3] at v2 ⊢
        exact hF v ((eqx_ua eqx.rf (by decide)).tr v1) v2
    · have q1 : ¬ 0 < z / 10 := fun q1 => by
        unfold lcp at q
        rw [if_pos q1] at q
        omega
      rw [if_neg q1] at eg
      rw [eg] at hF
      have := hF _ (eqx_ua eqx.rf (by decide)) dg
      rw [el] at this
      exact this
theorem num_ok {z : Int} {o : List Int} {F : SM → Prop} (hz : -2147483648 ≤ z ∧ z ≤ 2147483647) (hd : 1 ≤ d) (h : BY s o) (hF : ∀ w, eqx [67] [66, 70] s w → BY w (outN z o) → F w) : cm iv L h0 d 142 [vr 307, vi z] s (qv F) := by
  obtain ⟨d, rfl⟩ : ∃ k, d = k + 1 := ⟨d - 1, by omega⟩
  have e10 : p10 (9 + 1) = 10000000000 := by decide
  have go : ∀ (y : Int) (o' : List Int) (w : SM), 0 ≤ y → y < p10 (9 + 1) → BY w o' → (∀ v, eqx [67] [66, 70] w v → BY v (((dgs 10 y).reverse).foldl (fun o x => outB o (48 + x)) o') → F v) → wm iv L h0 (d + 1) 142 19 [lr 307, ln, ll y, ln, li 0] [] w (qv F) := fun y o' w y0 y1 hB hG => by
    refine num19 9 y [] w y0 y1 (by decide) (by decide) (fun k x hk => by simp at hk) (fun v v1 v2 => ?_)
    have hl := dgs_len 10 y
    have := num53 (iv := iv) (L := L) (h0 := h0) (d := d) (F := F) (dgs 10 y).reverse o' v (fun x hx => dgs_in 10 y x (by simpa using hx)) (by simp; omega) (by rw [List.reverse_reverse]; exact v2) ⟨by rw [v1.1 67 (by decide)]; exact hB.1, fun k x hk => by rw [v1.2 66 (by decide)]; exact hB.2 k x hk⟩ (fun u u1 u2 => hG u ((v1.up (fun y q => by cases q) (fun y q => by simp at q ⊢; omega)).tr (u1.up (fun y q => q) (fun y q => by simp at q ⊢; omega))) u2)
    rw [List.length_reverse] at this
    exact this
  unfold outN at hF
  refine B142 ⟨fun q => ?_, fun q => out_ok h (fun w w1 w2 => ?_)⟩
  · rw [if_neg (by omega), if_neg (by omega)] at hF
    exact go z o s q (by omega) h hF
  · rw [if_pos q, if_pos q] at hF
    exact go (-z) _ w (by omega) (by omega) w2 (fun v v1 v2 => hF v ((w1.up (fun y q => q) (fun y q => by simp at q ⊢; omega)).tr v1) v2)
end
end
section
/-! Writing a value: its bytes, the holes in it. -/
def pB (x : Int) (o : List Int × List Term) : List Int × List Term := (outB o.1 x, o.2)
def pN (z : Int) (o : List Int × List Term) : List Int × List Term := (outN z o.1, o.2)
def pW (a : Nat) (o : List Int × List Term) : List Int × List Term := (outW a o.1, o.2)
def wrd (k : Int) : Nat := if k = 4 then 21 else if k = 5 then 22 else if k = 6 then 23 else if k = 7 then 24 else if k = 9 then 25 else if k = 11 then 26 else if k = 13 then 27 else 28
def gd (o x : List Int × List Term) : List Int × List Term := if o.1.length = 400 then o else x
def outZ (k n : Int) (o : List Int × List Term) : List Int × List Term := if k = 11 then pB 41 (pN n (pB 32 o)) else pB 41 o
def outT (so : Int → Int) : Term → List Int × List Term → List Int × List Term
  | .int z, o => gd o (pN z.toInt o)
  | .arg n, o => gd o (pW (if n = 1 then 19 else 20) o)
  | .index x, o => gd o (pB (97 + x) (pB 33 o))
  | .sub (.index d) _, o => gd o (pN d (pB 100 o))
  | .add A B, o => gd o (pB 93 (outT so B (pB 32 (outT so A (pB 91 o)))))
  | .div (.index b) E, o => gd o (pN b (pB 63 (o.1, o.2 ++ [.div (.index b) E])))
  | .length A, o => gd o (pB 125 (outT so A (pB 123 o)))
  | .rem (.index n) (.elem A (.elem B _)), o => gd o (outZ (so n) n (if isV B = true then outT so B (pB 32 (outT so A (pB 32 (pW (wrd (so n)) (pB 40 o))))) else outT so A (pB 32 (pW (wrd (so n)) (pB 40 o)))))
  | _, o => o
def OU (s : SM) (lo hi elo ehi : Int) (o : List Int × List Term) (w : SM) : Prop := eqx [67, 69] [66, 68, 70] s w ∧ BY w o.1 ∧ (w.1 69 = o.2.length ∧ o.2.length ≤ o.1.length) ∧ ∀ (k : Nat) (V : Term), o.2[k]? = some V → VR s lo hi elo ehi V (w.2 68 k) ∧ isW V = true
theorem outB_ge (o : List Int) (x : Int) : o.length ≤ (outB o x).length := (outB_len o x).1
theorem fold_ge {α : Type} (f : α → Int) : ∀ (m : List α) (o : List Int), o.length ≤ (m.foldl (fun o c => outB o (f c)) o).length := by
  intro m
  induction m with
  | nil => intro o; exact Nat.le_refl _
  | cons c m ih => intro o; exact Nat.le_trans (outB_ge o (f c)) (ih _)
theorem outN_ge (z : Int) (o : List Int) : o.length ≤ (outN z o).length := by
  unfold outN
  refine Nat.le_trans ?_ (fold_ge (fun x => 48 + x) _ _)
  split
  · exact outB_ge _ _
  · exact Nat.le_refl _
theorem outW_ge (a : Nat) (o : List Int) : o.length ≤ (outW a o).length := fold_ge (fun c : Int32 => c.toInt) _ _
section
variable {iv : List (Int × Int)} {L : Nat} {h0 : MH} {s w : SM} {lo hi elo ehi : Int} {o : List Int × List Term} {d : Nat}
theorem oB {x : Int} {F : SM → Prop} (h : OU s lo hi elo ehi o w) (hF : ∀ v, OU s lo hi elo ehi (pB x o) v → (o.1.length ≤ (pB x o).1.length ∧ (o.1.length < 400 → (pB x o).1.length = o.1.length + 1)) → F v) : cm iv L h0 d 141 [vr 307, vi x] w (qv F) := by
  obtain ⟨h1, h2, h3, h4⟩ := h
  have hl := outB_len o.1 x
  refine out_ok h2 (fun v v1 v2 => hF v ⟨h1.tr (v1.up (fun y q => by simp at q ⊢; omega) (fun y q => by simp at q ⊢; omega)), v2, ⟨?_, Nat.le_trans h3.2 hl.1⟩, fun k V hk => ?_⟩ ⟨hl.1, hl.2.1⟩)
  · rw [v1.1 69 (by decide)]; exact h3.1
  · rw [v1.2 68 (by decide)]; exact h4 k V hk
theorem oN {z : Int} {F : SM → Prop} (hz : -2147483648 ≤ z ∧ z ≤ 2147483647) (hd : 1 ≤ d) (h : OU s lo hi elo ehi o w) (hF : ∀ v, OU s lo hi elo ehi (pN z o) v → o.1.length ≤ (pN z o).1.length → F v) : cm iv L h0 d 142 [vr 307, vi z] w (qv F) := by
  obtain ⟨h1, h2, h3, h4⟩ := h
  have hl := outN_ge z o.1
  refine num_ok hz hd h2 (fun v v1 v2 => hF v ⟨h1.tr (v1.up (fun y q => by simp at q ⊢; omega) (fun y q => by simp at q ⊢; omega)), v2, ⟨?_, Nat.le_trans h3.2 hl⟩, fun k V hk => ?_⟩ hl)
  · rw [v1.1 69 (by decide)]; exact h3.1
  · rw [v1.2 68 (by decide)]; exact h4 k V hk
theorem oW {a : Nat} {F : SM → Prop} (ha : 8 ≤ a ∧ a < 29) (hd : 1 ≤ d) (h : OU s lo hi elo ehi o w) (hF : ∀ v, OU s lo hi elo ehi (pW a o) v → o.1.length ≤ (pW a o).1.length → F v) : cm iv L h0 d 143 [vr 307, vr a] w (qv F) := by
  obtain ⟨h1, h2, h3, h4⟩ := h
  have hl := outW_ge a o.1
  refine word_ok (show 8 ≤ a ∧ a < 8 + 21 from ha) hd h2 (fun v v1 v2 => hF v ⟨h1.tr (v1.up (fun y q => by simp at q ⊢; omega) (fun y q => by simp at q ⊢; omega)), v2, ⟨?_, Nat.le_trans h3.2 hl⟩, fun k V hk => ?_⟩ hl)
  · rw [v1.1 69 (by decide)]; exact h3.1
  · rw [v1.2 68 (by decide)]; exact h4 k V hk
theorem wrd_ok {k : Int} {F : Nat → SM → Prop} (hF : F (wrd k) w) : cm iv L h0 d 144 [vi k] w (qa F) := by
  refine B144 ⟨fun q => ?_, fun q => ?_, fun q => ?_, fun q => ?_, fun q => ?_, fun q => ?_, fun q => ?_, fun q => ?_⟩
  · subst q; exact hF
  · subst q; exact hF
  · subst q; exact hF
  · subst q; exact hF
  · have e : wrd k = 28 := by
      unfold wrd
      rw [if_neg (by omega), if_neg (by omega), if_neg (by omega), if_neg (by omega), if_neg (by omega), if_neg (by omega), if_neg (by omega)]
    rw [e] at hF
    exact hF
  · subst q; exact hF
  · subst q; exact hF
  · subst q; exact hF
theorem wrd_in (k : Int) : 8 ≤ wrd k ∧ wrd k < 29 := by
  unfold wrd
  repeat' split
  all_goals decide
/-- the way of one value -/
def WV (iv : List (Int × Int)) (L : Nat) (h0 : MH) (s : SM) (lo hi elo ehi : Int) (V : Term) : Prop := ∀ (v : Int) (o : List Int × List Term) (w : SM) (d : Nat) (F : SM → Prop), VR s lo hi elo ehi V v → OU s lo hi elo ehi o w → 4 ≤ d → 404 ≤ d + o.1.length → (∀ u, OU s lo hi elo ehi (outT (s.2 9) V o) u → o.1.length ≤ (outT (s.2 9) V o).1.length → F u) → cm iv L h0 (d + 1) 145 [vr 307, vi v] w (qv F)
theorem OU.c {f : Nat} {v : Int} (h : OU s lo hi elo ehi o w) (hf : f < 66) : w.2 f v = s.2 f v := by
  rw [h.1.2 f (by simp; omega)]
theorem wv_full {V : Term} {F : SM → Prop} (hV : isV V = true) (h : OU s lo hi elo ehi o w) (h4 : w.1 67 = 400) (hF : ∀ u, OU s lo hi elo ehi (outT (s.2 9) V o) u → o.1.length ≤ (outT (s.2 9) V o).1.length → F u) : F w := by
  have hl : o.1.length = 400 := by have := h.2.1.1.1; omega
  have e : outT (s.2 9) V o = o := by
    unfold outT
    split <;> first | exact if_pos hl | rfl
  rw [e] at hF
  exact hF w h (Nat.le_refl _)
theorem gd_lt {x : List Int × List Term} (h : OU s lo hi elo ehi o w) (q : w.1 67 ≠ 400) : gd o x = x ∧ o.1.length < 400 := by
  have hl := h.2.1.1
  exact ⟨if_neg (by omega), by omega⟩
theorem wv_int {z : Int32} (hb : 0 ≤ lo ∧ hi ≤ 2600) : WV iv L h0 s lo hi elo ehi (.int z) := fun v o w d F hv h d4 _ hF => by
  have k := hv
  obtain ⟨k0, k1, k2, -⟩ := k
  have c1 := h.c (f := 46) (v := v) (by decide)
  have c2 := h.c (f := 47) (v := v) (by decide)
  have z1 := z.le_toInt
  have z2 := z.toInt_lt
  refine B145 ⟨fun q => ⟨by omega, fun q => ?_, fun q => by omega, fun q => by omega, fun q => by omega, fun q => by omega, fun q => by omega, fun q => by omega, fun q => by omega⟩, fun q => wv_full (V := .int z) rfl h q hF⟩
  rw [c2, k2]
  have hF : ∀ u, OU s lo hi elo ehi (gd o (pN z.toInt o)) u → o.1.length ≤ (gd o (pN z.toInt o)).1.length → F u := hF
  rw [(gd_lt h (by assumption)).1] at hF
  exact oN (by omega) (by omega) h hF
theorem wv_arg {n : Nat} (hb : 0 ≤ lo ∧ hi ≤ 2600) : WV iv L h0 s lo hi elo ehi (.arg n) := fun v o w d F hv h d4 _ hF => by
  have k := hv
  obtain ⟨k0, k1, k2, -⟩ := k
  have c1 := h.c (f := 46) (v := v) (by decide)
  have c2 := h.c (f := 47) (v := v) (by decide)
  refine B145 ⟨fun q => ⟨by omega, fun q => by omega, fun q => ?_, fun q => by omega, fun q => by omega, fun q => by omega, fun q => by omega, fun q => by omega, fun q => by omega⟩, fun q => wv_full (V := .arg n) rfl h q hF⟩
  have hF : ∀ u, OU s lo hi elo ehi (gd o (pW (if n = 1 then 19 else 20) o)) u → o.1.length ≤ (gd o (pW (if n = 1 then 19 else 20) o)).1.length → F u := hF
  rw [(gd_lt h (by assumption)).1] at hF
  rw [c2, k2]
  refine ⟨fun q => ?_, fun q => ?_⟩
  · rw [if_neg (by omega)] at hF
    exact oW (by decide) (by omega) h hF
  · rw [if_pos (by omega)] at hF
    exact oW (by decide) (by omega) h hF
theorem wv_index {x : Nat} (hb : 0 ≤ lo ∧ hi ≤ 2600) (hx : x < 26) : WV iv L h0 s lo hi elo ehi (.index x) := fun v o w d F hv h d4 _ hF => by
  have k := hv
  obtain ⟨k0, k1, k2, -⟩ := k
  have c1 := h.c (f := 46) (v := v) (by decide)
  refine B145 ⟨fun q => ⟨by omega, fun q => by omega, fun q => by omega, fun q => by omega, fun q => by omega, fun q => by omega, fun q => ?_, fun q => by omega, fun q => by omega⟩, fun q => wv_full (V := .index x) rfl h q hF⟩
  have hF : ∀ u, OU s lo hi elo ehi (gd o (pB (97 + x) (pB 33 o))) u → o.1.length ≤ (gd o (pB (97 + x) (pB 33 o))).1.length → F u := hF
  rw [(gd_lt h (by assumption)).1] at hF
  refine oB h (fun u hu e => ?_)
  have c2 := hu.c (f := 47) (v := v) (by decide)
  rw [c2, k2]
  exact ⟨by omega, oB hu (fun u' hu' e' => hF u' hu' (Nat.le_trans e.1 e'.1))⟩
theorem wv_sub {n : Nat} {E : Term} (hb : 0 ≤ lo ∧ hi ≤ 2600) (hx : n < 3000) : WV iv L h0 s lo hi elo ehi (.sub (.index n) E) := fun v o w d F hv h d4 _ hF => by
  have k := hv
  obtain ⟨_, ⟨k0, k1, k2, -⟩, -⟩ := k
  have c1 := h.c (f := 46) (v := v) (by decide)
  refine B145 ⟨fun q => ⟨by omega, fun q => by omega, fun q => by omega, fun q => ?_, fun q => by omega, fun q => by omega, fun q => by omega, fun q => by omega, fun q => by omega⟩, fun q => wv_full (V := .sub (.index n) E) rfl h q hF⟩
  have hF : ∀ u, OU s lo hi elo ehi (gd o (pN n (pB 100 o))) u → o.1.length ≤ (gd o (pN n (pB 100 o))).1.length → F u := hF
  rw [(gd_lt h (by assumption)).1] at hF
  refine oB h (fun u hu e => ?_)
  have c2 := hu.c (f := 47) (v := v) (by decide)
  rw [c2, k2]
  exact oN (by omega) (by omega) hu (fun u' hu' e' => hF u' hu' (Nat.le_trans e.1 e'))
theorem wv_add {A B : Term} (hb : 0 ≤ lo ∧ hi ≤ 2600) (hA : WV iv L h0 s lo hi elo ehi A) (hB : WV iv L h0 s lo hi elo ehi B) : WV iv L h0 s lo hi elo ehi (.add A B) := fun v o w d F hv h d4 dl hF => by
  have k := hv
  obtain ⟨a, b, ⟨k0, k1, k2, k3, k4, -⟩, ka, kb⟩ := k
  have c1 := h.c (f := 46) (v := v) (by decide)
  refine B145 ⟨fun q => ⟨by omega, fun q => by omega, fun q => by omega, fun q => by omega, fun q => ?_, fun q => by omega, fun q => by omega, fun q => by omega, fun q => by omega⟩, fun q => wv_full (V := .add A B) rfl h q hF⟩
  have hF : ∀ u, OU s lo hi elo ehi (gd o (pB 93 (outT (s.2 9) B (pB 32 (outT (s.2 9) A (pB 91 o)))))) u → o.1.length ≤ (gd o (pB 93 (outT (s.2 9) B (pB 32 (outT (s.2 9) A (pB 91 o)))))).1.length → F u := hF
  obtain ⟨g1, g2⟩ := gd_lt (x := pB 93 (outT (s.2 9) B (pB 32 (outT (s.2 9) A (pB 91 o))))) h (by assumption)
  rw [g1] at hF
  obtain ⟨d, rfl⟩ : ∃ k, d = k + 1 := ⟨d - 1, by omega⟩
  refine oB h (fun u1 h1 e1 => ?_)
  have e1' := e1.2 g2
  rw [h1.c (f := 48) (v := v) (by decide), k3]
  refine hA a _ u1 d _ ka h1 (by omega) (by omega) (fun u2 h2 e2 => oB h2 (fun u3 h3 e3 => ?_))
  rw [h3.c (f := 49) (v := v) (by decide), k4]
  refine hB b _ u3 d _ kb h3 (by omega) (by omega) (fun u4 h4 e4 => oB h4 (fun u5 h5 e5 => hF u5 h5 (by omega)))
theorem wv_len {A : Term} (hb : 0 ≤ lo ∧ hi ≤ 2600) (hA : WV iv L h0 s lo hi elo ehi A) : WV iv L h0 s lo hi elo ehi (.length A) := fun v o w d F hv h d4 dl hF => by
  have k := hv
  obtain ⟨a, ⟨k0, k1, k2, k3, -⟩, ka⟩ := k
  have c1 := h.c (f := 46) (v := v) (by decide)
  refine B145 ⟨fun q => ⟨by omega, fun q => by omega, fun q => by omega, fun q => by omega, fun q => by omega, fun q => by omega, fun q => by omega, fun q => ?_, fun q => by omega⟩, fun q => wv_full (V := .length A) rfl h q hF⟩
  have hF : ∀ u, OU s lo hi elo ehi (gd o (pB 125 (outT (s.2 9) A (pB 123 o)))) u → o.1.length ≤ (gd o (pB 125 (outT (s.2 9) A (pB 123 o)))).1.length → F u := hF
  obtain ⟨g1, g2⟩ := gd_lt (x := pB 125 (outT (s.2 9) A (pB 123 o))) h (by assumption)
  rw [g1] at hF
  obtain ⟨d, rfl⟩ : ∃ k, d = k + 1 := ⟨d - 1, by omega⟩
  refine oB h (fun u1 h1 e1 => ?_)
  have e1' := e1.2 g2
  rw [h1.c (f := 48) (v := v) (by decide), k3]
  exact hA a _ u1 d _ ka h1 (by omega) (by omega) (fun u2 h2 e2 => oB h2 (fun u3 h3 e3 => hF u3 h3 (by omega)))
end
end
section
/-! Writing a hole, what waits on one; write1. -/
/-- a value of nodes born, in the sheet or not -/
def VB (s : SM) : Term → Prop
  | .int _ => True
  | .arg n => n ≤ 1
  | .index x => x < 26
  | .sub (.index d) E => (d : Int) < s.1 8 ∧ isE 26 E ∧ VB s E
  | .add A B => (isV A = true ∧ VB s A) ∧ isV B = true ∧ VB s B
  | .div (.index b) E => (b : Int) < s.1 8 ∧ isE 26 E ∧ VB s E
  | .length A => isV A = true ∧ VB s A
  | .rem (.index n) (.elem A (.elem B E)) => ((n : Int) < s.1 8 ∧ isV A = true ∧ VB s A) ∧ ((isV B = true ∧ VB s B) ∨ B = .null) ∧ ((isE 26 E ∧ VB s E) ∨ E = .null)
  | .mul r x => VB s r ∧ (x = .null ∨ (isV x = true ∧ VB s x))
  | .null => True
  | _ => False
theorem VB_g {s : SM} {t : Term} {g : Int → Int} (hT : SHT s t) : ∀ (n : Nat) (V : Term), SizeOf.sizeOf V < n → VG s t g V → VB s V := by
  intro n
  induction n with
  | zero => intro V h; omega
  | succ n ih =>
    intro V hn h
    cases V with
    | int z => trivial
    | arg z => exact h
    | index x => exact h
    | null => trivial
    | sub d E =>
      cases d with
      | index d => exact ⟨(hT.lt h.1.1).2.1, h.2.2.1, ih E (by simp at hn; omega) h.2.2.2⟩
      | _ => exact h.elim
    | add A B => exact ⟨⟨h.1.1, ih A (by simp at hn; omega) h.1.2⟩, h.2.1, ih B (by simp at hn; omega) h.2.2⟩
    | div d E =>
      cases d with
      | index b => exact ⟨h.1.1, h.2.2.1, ih E (by simp at hn; omega) h.2.2.2⟩
      | _ => exact h.elim
    | length A => exact ⟨h.1, ih A (by simp at hn; omega) h.2⟩
    | rem b q =>
      cases b with
      | index b =>
        cases q with
        | elem A q =>
          cases q with
          | elem B E =>
            obtain ⟨⟨b1, a1, a2⟩, hc⟩ := h
            refine ⟨⟨(hT.lt b1).2.1, a1, ih A (by simp at hn; omega) a2⟩, ?_⟩
            rcases hc with ⟨_, c2, c3, c4⟩ | ⟨_, c2, c3, _, c5⟩ | ⟨_, c2, c3⟩
            · exact ⟨Or.inl ⟨c2, ih B (by simp at hn; omega) c3⟩, Or.inr c4⟩
            · exact ⟨Or.inr c2, Or.inl ⟨c3, ih E (by simp at hn; omega) c5⟩⟩
            · exact ⟨Or.inr c2, Or.inr c3⟩
          | _ => exact h.elim
        | _ => exact h.elim
      | _ => exact h.elim
    | mul r x =>
      have h : VG s t g r ∧ (x = .null ∨ (isV x = true ∧ VG s t g x)) := h
      exact ⟨ih r (by simp at hn; omega) h.1, h.2.imp id (fun q => ⟨q.1, ih x (by simp at hn; omega) q.2⟩)⟩
    | _ => exact h.elim
section
variable {iv : List (Int × Int)} {L : Nat} {h0 : MH} {s w : SM} {t : Term} {lo hi elo ehi : Int} {o : List Int × List Term} {d : Nat}
theorem wv_div {n : Nat} {E : Term} (hb : 0 ≤ lo ∧ hi ≤ 2600) (hx : n < 3000) : WV iv L h0 s lo hi elo ehi (.div (.index n) E) := fun v o w d F hv h d4 _ hF => by
  have k := hv
  obtain ⟨_, ⟨k0, k1, k2, -⟩, -⟩ := k
  have c1 := h.c (f := 46) (v := v) (by decide)
  obtain ⟨h1, h2, h3, h4⟩ := h
  have hl := h2.1
  refine B145 ⟨fun q => ⟨by omega, fun q => by omega, fun q => by omega, fun q => by omega, fun q => by omega, fun _ => ⟨by omega, by omega, ?_⟩, fun q => by omega, fun q => by omega, fun q => by omega⟩, fun q => wv_full (V := .div (.index n) E) rfl ⟨h1, h2, h3, h4⟩ q hF⟩
  have q400 : o.1.length < 400 := by omega
  have eg : outT (s.2 9) (.div (.index n) E) o = pN n (pB 63 (o.1, o.2 ++ [.div (.index n) E])) := if_neg (by omega)
  rw [eg] at hF
  have x1 : eqx [67, 69] [66, 68, 70] s (us (ua w 68 (w.1 69) v) 69 (w.1 69 + 1)) := eqx_us (eqx_ua h1 (by decide)) (by decide)
  have hlB := (outB_len o.1 63).2.1 q400
  have eB : BY (us (ua w 68 (w.1 69) v) 69 (w.1 69 + 1)) o.1 := ⟨h2.1, fun k x hk => by
    show (if 66 = 68 ∧ (k : Int) = w.1 69 then v else w.2 66 k) = x
    rw [if_neg (by omega)]
    exact h2.2 k x hk⟩
  refine out_ok eB (fun u u1 u2 => ?_)
  have hu : OU s lo hi elo ehi (pB 63 (o.1, o.2 ++ [.div (.index n) E])) u := by
    refine ⟨x1.tr (u1.up (fun y q => by simp at q ⊢; omega) (fun y q => by simp at q ⊢; omega)), u2, ⟨?_, ?_⟩, fun k V hk => ?_⟩
    · rw [u1.1 69 (by decide)]
      show w.1 69 + 1 = ((o.2 ++ [Term.div (.index n) E]).length : Nat)
      simp; omega
    · show (o.2 ++ [Term.div (.index n) E]).length ≤ (outB o.1 63).length
      simp; omega
    · rw [u1.2 68 (by decide)]
      show VR s lo hi elo ehi V (if 68 = 68 ∧ (k : Int) = w.1 69 then v else w.2 68 k) ∧ isW V = true
      rcases app_at hk with hk | ⟨rfl, rfl⟩
      · have := (List.getElem?_eq_some_iff.mp hk).1
        rw [if_neg (by omega)]
        exact h4 k V hk
      · rw [if_pos ⟨rfl, h3.1.symm⟩]
        exact ⟨hv, rfl⟩
  rw [hu.c (f := 47) (v := v) (by decide), k2]
  have hl2 : o.1.length ≤ (pB 63 (o.1, o.2 ++ [Term.div (.index n) E])).1.length := (outB_len o.1 63).1
  exact oN (by omega) (by omega) hu (fun u' hu' e' => hF u' hu' (Nat.le_trans hl2 e'))
theorem outZ_ok {n : Nat} {F : SM → Prop} {q : Prop} (hx : n < 3000) (hd : 1 ≤ d) (h : OU s lo hi elo ehi o w) (hF : ∀ u, OU s lo hi elo ehi (outZ (s.2 9 n) n o) u → o.1.length ≤ (outZ (s.2 9 n) n o).1.length → F u) (v : Int) (hv : s.2 47 v = n) : (0 ≤ w.2 47 v ∧ w.2 47 v < 3004) ∧ ((w.2 9 (w.2 47 v) ≠ 11 → cm iv L h0 d 141 [vr 307, vi 41] w (qv fun s30 => F s30)) ∧ (w.2 9 (w.2 47 v) = 11 → cm iv L h0 d 141 [vr 307, vi 32] w (qv fun s31 => cm iv L h0 d 142 [vr 307, vi (s31.2 47 v)] s31 (qv fun s32 => cm iv L h0 d 141 [vr 307, vi 41] s32 (qv fun s33 => F s33))))) := by
  rw [h.c (f := 47) (v := v) (by decide), hv, h.c (f := 9) (v := n) (by decide)]
  unfold outZ at hF
  refine ⟨by omega, fun q => ?_, fun q => ?_⟩
  · rw [if_neg q] at hF
    exact oB h (fun u hu e => hF u hu e.1)
  · rw [if_pos q] at hF
    refine oB h (fun u1 h1 e1 => ?_)
    rw [h1.c (f := 47) (v := v) (by decide), hv]
    exact oN (by omega) hd h1 (fun u2 h2 e2 => oB h2 (fun u3 h3 e3 => hF u3 h3 (by omega)))
theorem wv_rem {n : Nat} {A B E : Term} (hb : 0 ≤ lo ∧ hi ≤ 2600) (hx : n < 3000) (hA : WV iv L h0 s lo hi elo ehi A) (hB : isV B = true → WV iv L h0 s lo hi elo ehi B) (hBn : B = .null ∨ isV B = true) : WV iv L h0 s lo hi elo ehi (.rem (.index n) (.elem A (.elem B E))) := fun v o w d F hv h d4 dl hF => by
  have k := hv
  obtain ⟨a, b, e, ⟨k0, k1, k2, k3, k4, -⟩, ka, kb, -⟩ := k
  have c1 := h.c (f := 46) (v := v) (by decide)
  refine B145 ⟨fun q => ⟨by omega, fun q => by omega, fun q => by omega, fun q => by omega, fun q => by omega, fun q => by omega, fun q => by omega, fun q => by omega, fun _ => ?_⟩, fun q => wv_full (V := .rem (.index n) (.elem A (.elem B E))) rfl h q hF⟩
  have g2 : o.1.length < 400 := (gd_lt (x := o) h (by assumption)).2
  have eg : outT (s.2 9) (.rem (.index n) (.elem A (.elem B E))) o = outZ (s.2 9 n) n (if isV B = true then outT (s.2 9) B (pB 32 (outT (s.2 9) A (pB 32 (pW (wrd (s.2 9 n)) (pB 40 o))))) else outT (s.2 9) A (pB 32 (pW (wrd (s.2 9 n)) (pB 40 o)))) := if_neg (by omega)
  rw [eg] at hF
  obtain ⟨d, rfl⟩ : ∃ k, d = k + 1 := ⟨d - 1, by omega⟩
  refine oB h (fun u1 h1 e1 => ?_)
  have e1' := e1.2 g2
  rw [h1.c (f := 47) (v := v) (by decide), k2, h1.c (f := 9) (v := n) (by decide)]
  refine ⟨by omega, wrd_ok (oW (wrd_in _) (by omega) h1 (fun u2 h2 e2 => oB h2 (fun u3 h3 e3 => ?_)))⟩
  rw [h3.c (f := 48) (v := v) (by decide), k3]
  refine hA a _ u3 d _ ka h3 (by omega) (by omega) (fun u4 h4 e4 => ?_)
  rw [h4.c (f := 49) (v := v) (by decide), k4]
  rcases kb with ⟨rfl, rfl⟩ | ⟨kn, kb⟩
  · rw [if_neg (by decide)] at hF
    refine ⟨fun _ => outZ_ok (q := True) hx (by omega) h4 (fun u hu eu => hF u hu (by omega)) v k2, fun q => absurd rfl q⟩
  · have hvB := hBn.resolve_left kn
    have kB := VR_kind hvB kb
    rw [if_pos hvB] at hF
    refine ⟨fun q => by omega, fun _ => oB h4 (fun u5 h5 e5 => ?_)⟩
    rw [h5.c (f := 49) (v := v) (by decide), k4]
    exact hB hvB b _ u5 d _ kb h5 (by omega) (by omega) (fun u6 h6 e6 => outZ_ok (q := True) hx (by omega) h6 (fun u hu eu => hF u hu (by omega)) v k2)
theorem wv_all (hb : 0 ≤ lo ∧ hi ≤ 2600) (h8 : s.1 8 ≤ 3000) : ∀ (n : Nat) (V : Term), SizeOf.sizeOf V < n → isV V = true → VB s V → WV iv L h0 s lo hi elo ehi V := by
  intro n
  induction n with
  | zero => intro V hn; omega
  | succ n ih =>
    intro V hn hv hV
    cases V with
    | int z => exact wv_int hb
    | arg z => exact wv_arg hb
    | index x => exact wv_index hb hV
    | sub x E =>
      cases x with
      | index x =>
        have := hV.1
        exact wv_sub hb (by omega)
      | _ => cases hv
    | add A B => exact wv_add hb (ih A (by simp at hn; omega) hV.1.1 hV.1.2) (ih B (by simp at hn; omega) hV.2.1 hV.2.2)
    | div x E =>
      cases x with
      | index x =>
        have := hV.1
        exact wv_div hb (by omega)
      | _ => cases hv
    | length A => exact wv_len hb (ih A (by simp at hn; omega) hV.1 hV.2)
    | rem x q =>
      cases x with
      | index x =>
        cases q with
        | elem A q =>
          cases q with
          | elem B E =>
            obtain ⟨⟨b1, a1, a2⟩, hc⟩ := hV
            refine wv_rem hb (by omega) (ih A (by simp at hn; omega) a1 a2) (fun hB => ?_) (hc.1.symm.imp id (fun q => q.1))
            rcases hc.1 with c | c
            · exact ih B (by simp at hn; omega) c.1 c.2
            · rw [c] at hB; cases hB
          | _ => cases hv
        | _ => cases hv
      | _ => cases hv
    | _ => cases hv
/-- write1: a value's bytes and holes -/
def wrt (s : SM) (V : Term) : List Int × List Term := outT (s.2 9) V ([], [])
theorem write1_ok {V : Term} {v : Int} {F : SM → Prop} (hb : 0 ≤ lo ∧ hi ≤ 2600) (h8 : s.1 8 ≤ 3000) (hV : isV V = true ∧ VB s V) (hv : VR s lo hi elo ehi V v) (hw : eqx [67, 69] [66, 68, 70] s w) (hd : 406 ≤ d) (hF : ∀ u, OU s lo hi elo ehi (wrt s V) u → F u) : cm iv L h0 d 146 [vr 307, vi v] w (qv F) := by
  obtain ⟨d, rfl⟩ : ∃ k, d = k + 2 := ⟨d - 2, by omega⟩
  refine B146 (wv_all hb h8 (SizeOf.sizeOf V + 1) V (Nat.lt_succ_self _) hV.1 hV.2 v ([], []) _ d _ hv ⟨eqx_us (eqx_us hw (by decide)) (by decide), ⟨⟨rfl, by decide⟩, fun k x hk => by simp at hk⟩, ⟨rfl, Nat.le_refl _⟩, fun k V hk => by simp at hk⟩ (by omega) (by show 404 ≤ d + 0; omega) (fun u hu _ => hF u hu))
end
end
section
/-! value(i), left(k). -/
def hasV (s : SM) : Prop := s.1 61 = 0 ∨ s.1 61 = 1
def atB (o : List Int) (k : Int) : Int := if k = -1 then o.length else if 0 ≤ k ∧ k < o.length then o.getD k.toNat 0 else -9
/-- the hole of a term -/
def hlN : Term → Int
  | .div (.index b) _ => b
  | _ => -9
section
variable {iv : List (Int × Int)} {L : Nat} {h0 : MH} {s : SM} {V : Term} {d : Nat}
theorem has_ok {F : Int → SM → Prop} (h1 : hasV s → F 1 s) (h0' : ¬ hasV s → F 0 s) : cm iv L h0 d 147 [vr 307] s (qi F) :=
  B147 ⟨fun q => h1 (Or.inl q), fun q => ⟨fun q2 => h0' (fun c => by unfold hasV at c; omega), fun q2 => h1 (Or.inr q2)⟩⟩
theorem atB_ok {o : List Int} {w : SM} {k : Int} {F : Int → SM → Prop} (h : BY w o) (hF : F (atB o k) w) : (k ≠ (-1) → (-2147483648 ≤ (w.1 67) - 1 ∧ (w.1 67) - 1 ≤ 2147483647) ∧ ((0 ≤ k ∧ k ≤ (w.1 67) - 1 → (0 ≤ k ∧ k < 400) ∧ F (w.2 66 k) w) ∧ (k < 0 ∨ (w.1 67) - 1 < k → F (-9) w))) ∧ (k = (-1) → F (w.1 67) w) := by
  obtain ⟨⟨a1, a2⟩, a3⟩ := h
  unfold atB at hF
  refine ⟨fun q => ⟨by omega, fun q2 => ⟨by omega, ?_⟩, fun q2 => ?_⟩, fun q => ?_⟩
  · rw [if_neg q, if_pos (by omega)] at hF
    have := a3 k.toNat (o.getD k.toNat 0) (by rw [List.getElem?_eq_getElem (by omega)]; rw [List.getD_eq_getElem?_getD, List.getElem?_eq_getElem (by omega)]; rfl)
    rw [show ((k.toNat : Nat) : Int) = k by omega] at this
    rw [this]
    exact hF
  · rw [if_neg q, if_neg (by omega)] at hF
    exact hF
  · rw [if_pos q] at hF
    rw [a1]
    exact hF
/-- what is to be known of the last value -/
def VK (s : SM) (V : Term) : Prop := hasV s → HB s ∧ VH s V ∧ VB s V
theorem value_ok {k : Int} {F : Int → SM → Prop} (h8 : s.1 8 ≤ 3000) (hV : VK s V) (hd : 407 ≤ d) (H0 : ¬ hasV s → F (-9) s) (H1 : ∀ w, hasV s → eqx [67, 69] [66, 68, 70] s w → F (atB (wrt s V).1 k) w) : cm iv L h0 d 148 [vr 307, vi k] s (qi F) := by
  obtain ⟨d, rfl⟩ : ∃ k, d = k + 1 := ⟨d - 1, by omega⟩
  refine B148 (has_ok (fun q => ⟨fun _ => ?_, fun q2 => by cases q2⟩) (fun q => ⟨fun q2 => absurd rfl q2, fun _ => H0 q⟩))
  obtain ⟨⟨b1, b2, b3⟩, v1, v2⟩ := hV q
  exact write1_ok (by omega) h8 ⟨v1.1, v2⟩ v1.2 eqx.rf (by omega) (fun u hu => atB_ok hu.2.1 (H1 u q hu.1))
def lefA (s : SM) (V : Term) (k : Int) : Int := if 0 ≤ k ∧ k < (wrt s V).2.length then hlN ((wrt s V).2.getD k.toNat .null) else -9
theorem getD_at {α : Type} {l : List α} {k : Int} {x : α} (h0 : 0 ≤ k) (h1 : k < l.length) : l[k.toNat]? = some (l.getD k.toNat x) := by
  rw [List.getD_eq_getElem?_getD, List.getElem?_eq_getElem (by omega)]
  rfl
theorem lef_at {w : SM} {lo hi elo ehi : Int} {o : List Int × List Term} {k : Int} (hb : 0 ≤ lo ∧ hi ≤ 2600) (hu : OU s lo hi elo ehi o w) (h0 : 0 ≤ k) (h1 : k < o.2.length) (hd : ∀ V, V ∈ o.2 → ∃ (b : Nat) (E : Term), V = .div (.index b) E) : (0 ≤ w.2 68 k ∧ w.2 68 k < 2600) ∧ w.2 47 (w.2 68 k) = hlN (o.2.getD k.toNat .null) ∧ ∃ (b : Nat) (E : Term), o.2.getD k.toNat .null = .div (.index b) E ∧ VR s lo hi elo ehi E (s.2 50 (w.2 68 k)) := by
  have e := getD_at (x := Term.null) h0 h1
  generalize o.2.getD k.toNat .null = V at e ⊢
  obtain ⟨b, E, rfl⟩ := hd V (List.mem_of_getElem? e)
  have := (hu.2.2.2 k.toNat _ e).1
  rw [show ((k.toNat : Nat) : Int) = k by omega] at this
  obtain ⟨e', ⟨k0, k1, k2, k3, k4, k5, -⟩, kE⟩ := this
  refine ⟨by omega, ?_, b, E, rfl, ?_⟩
  · rw [hu.c (by decide), k2]; rfl
  · rw [k5]; exact kE
end
end
section
/-! left(k), seen(k, x, i). -/
def HLE (s : SM) (X : Term) : Prop := ∃ (b : Nat) (E : Term), X = .div (.index b) E ∧ isE 26 E ∧ VB s E
theorem gd_h {P : Term → Prop} {o x : List Int × List Term} (h : ∀ X, X ∈ o.2 → P X) (hx : ∀ X, X ∈ x.2 → P X) : ∀ X, X ∈ (gd o x).2 → P X := by
  unfold gd
  split
  · exact h
  · exact hx
theorem outT_h {s : SM} {so : Int → Int} : ∀ (n : Nat) (V : Term), SizeOf.sizeOf V < n → isV V = true → VB s V → ∀ (o : List Int × List Term), (∀ X, X ∈ o.2 → HLE s X) → ∀ X, X ∈ (outT so V o).2 → HLE s X := by
  intro n
  induction n with
  | zero => intro V hn; omega
  | succ n ih =>
    intro V hn hv hV o ho
    cases V with
    | int z => exact gd_h (x := pN z.toInt o) ho ho
    | arg z => exact gd_h (x := pW (if z = 1 then 19 else 20) o) ho ho
    | index x => exact gd_h (x := pB (97 + x) (pB 33 o)) ho ho
    | sub x E =>
      cases x with
      | index x => exact gd_h (x := pN x (pB 100 o)) ho ho
      | _ => cases hv
    | add A B =>
      refine gd_h (x := pB 93 (outT so B (pB 32 (outT so A (pB 91 o))))) ho ?_
      exact ih B (by simp at hn; omega) hV.2.1 hV.2.2 _ (ih A (by simp at hn; omega) hV.1.1 hV.1.2 _ ho)
    | div x E =>
      cases x with
      | index x =>
        refine gd_h (x := pN x (pB 63 (o.1, o.2 ++ [.div (.index x) E]))) ho (fun X hX => ?_)
        rcases List.mem_append.mp hX with hX | hX
        · exact ho X hX
        · rw [List.mem_singleton.mp hX]
          exact ⟨x, E, rfl, hV.2⟩
      | _ => cases hv
    | length A =>
      refine gd_h (x := pB 125 (outT so A (pB 123 o))) ho ?_
      exact ih A (by simp at hn; omega) hV.1 hV.2 _ ho
    | rem x q =>
      cases x with
      | index x =>
        cases q with
        | elem A q =>
          cases q with
          | elem B E =>
            obtain ⟨⟨b1, a1, a2⟩, hB, -⟩ := hV
            have r1 : ∀ X, X ∈ (outT so A (pB 32 (pW (wrd (so x)) (pB 40 o)))).2 → HLE s X := ih A (by simp at hn; omega) a1 a2 _ ho
            have z : ∀ (o' : List Int × List Term), (∀ X, X ∈ o'.2 → HLE s X) → ∀ X, X ∈ (outZ (so x) x o').2 → HLE s X := fun o' h' => by
              unfold outZ
              split <;> exact h'
            refine gd_h (x := outZ (so x) x (if isV B = true then outT so B (pB 32 (outT so A (pB 32 (pW (wrd (so x)) (pB 40 o))))) else outT so A (pB 32 (pW (wrd (so x)) (pB 40 o))))) ho (z _ ?_)
            split
            · next hvB =>
              rcases hB with hB | hB
              · exact ih B (by simp at hn; omega) hB.1 hB.2 _ r1
              · rw [hB] at hvB; cases hvB
            · exact r1
          | _ => cases hv
        | _ => cases hv
      | _ => cases hv
    | _ => cases hv
/-- what is seen from a hole at a letter -/
def seeV (s : SM) (V : Term) (k x : Int) : Term := match (wrt s V).2.getD k.toNat .null with
  | .div _ E => lkE E x
  | _ => .null
section
variable {iv : List (Int × Int)} {L : Nat} {h0 : MH} {s : SM} {V : Term} {d : Nat}
theorem wrt_h (hV : isV V = true ∧ VB s V) : ∀ X, X ∈ (wrt s V).2 → HLE s X := outT_h (SizeOf.sizeOf V + 1) V (Nat.lt_succ_self _) hV.1 hV.2 _ (fun X hX => by cases hX)
theorem left_ok {k : Int} {F : Int → SM → Prop} (h8 : s.1 8 ≤ 3000) (hV : VK s V) (hd : 407 ≤ d) (H0 : ¬ hasV s → F (-9) s) (H1 : ∀ w, hasV s → eqx [67, 69] [66, 68, 70] s w → F (lefA s V k) w) : cm iv L h0 d 149 [vr 307, vi k] s (qi F) := by
  obtain ⟨d, rfl⟩ : ∃ k, d = k + 1 := ⟨d - 1, by omega⟩
  refine B149 (has_ok (fun q => ⟨fun _ => ?_, fun q2 => by cases q2⟩) (fun q => ⟨fun q2 => absurd rfl q2, fun _ => H0 q⟩))
  obtain ⟨⟨b1, b2, b3⟩, v1, v2⟩ := hV q
  refine write1_ok (by omega) h8 ⟨v1.1, v2⟩ v1.2 eqx.rf (by omega) (fun u hu => ?_)
  have H1 := H1 u q hu.1
  have l1 := hu.2.1.1
  have l2 := hu.2.2.1
  unfold lefA at H1
  refine ⟨by omega, fun q2 => ?_, fun q2 => ?_⟩
  · obtain ⟨c1, c2, -⟩ := lef_at (k := k) (by omega) hu q2.1 (by omega) (fun X hX => by obtain ⟨b, E, e, -⟩ := wrt_h ⟨v1.1, v2⟩ X hX; exact ⟨b, E, e⟩)
    rw [if_pos (by omega)] at H1
    refine ⟨by omega, c1, ?_⟩
    rw [c2]
    exact H1
  · rw [if_neg (by omega)] at H1
    exact H1
end
end
section
/-! seen(k, x, i). -/
theorem VB_lk {s : SM} : ∀ (E : Term) (x : Int), VB s E → lkE E x ≠ .null → isV (lkE E x) = true ∧ VB s (lkE E x) := by
  intro E
  induction E with
  | mul r y ihr _ =>
    intro x h hn
    have h : VB s r ∧ (y = .null ∨ (isV y = true ∧ VB s y)) := h
    unfold lkE at hn ⊢
    split
    · next q =>
      rw [if_pos q] at hn
      exact h.2.resolve_left hn
    · next q =>
      rw [if_neg q] at hn
      exact ihr x h.1 hn
  | _ => intro x h hn; exact absurd rfl hn
/-- the answer of seen -/
def senA (s : SM) (V : Term) (k x i : Int) : Int := if 0 ≤ k ∧ k < (wrt s V).2.length ∧ seeV s V k x ≠ .null then atB (wrt s (seeV s V k x)).1 i else -9
section
variable {iv : List (Int × Int)} {L : Nat} {h0 : MH} {s : SM} {V : Term} {d : Nat}
theorem seen_ok {k x i : Int} {F : Int → SM → Prop} (h8 : s.1 8 ≤ 3000) (hV : VK s V) (hd : 407 ≤ d) (H0 : ¬ (0 ≤ x ∧ x ≤ 25) → F (-1) s) (H1 : (0 ≤ x ∧ x ≤ 25) → ¬ hasV s → F (-9) s) (H2 : ∀ w, (0 ≤ x ∧ x ≤ 25) → hasV s → eqx [67, 69] [66, 68, 70] s w → F (senA s V k x i) w) : cm iv L h0 d 150 [vr 307, vi k, vi x, vi i] s (qi F) := by
  obtain ⟨d, rfl⟩ : ∃ k, d = k + 1 := ⟨d - 1, by omega⟩
  refine B150 ⟨fun hx => has_ok (fun q => ⟨fun _ => ?_, fun q2 => by cases q2⟩) (fun q => ⟨fun q2 => absurd rfl q2, fun _ => H1 hx q⟩), fun q => H0 (by omega)⟩
  obtain ⟨⟨b1, b2, b3⟩, v1, v2⟩ := hV q
  have hb : 0 ≤ 1300 * s.1 55 ∧ s.1 52 ≤ 2600 := by omega
  refine write1_ok hb h8 ⟨v1.1, v2⟩ v1.2 eqx.rf (by omega) (fun u hu => ?_)
  have H2 := fun w => H2 w hx q
  have l1 := hu.2.1.1
  have l2 := hu.2.2.1
  unfold senA at H2
  refine ⟨by omega, fun q2 => ?_, fun q2 => ?_⟩
  · have hk : k < (wrt s V).2.length := by omega
    have hh := wrt_h ⟨v1.1, v2⟩
    obtain ⟨c1, -, b, E, cE, c3⟩ := lef_at (k := k) hb hu q2.1 hk (fun X hX => by obtain ⟨b, E, e, -⟩ := hh X hX; exact ⟨b, E, e⟩)
    have eS : seeV s V k x = lkE E x := by unfold seeV; rw [cE]
    obtain ⟨b', E', ce, hE1, hE2⟩ := hh _ (List.mem_of_getElem? (getD_at (x := Term.null) q2.1 hk))
    rw [cE] at ce
    cases ce
    rw [eS] at H2
    rw [hu.c (f := 50) (by decide), hu.c (f := 53) (by decide)]
    generalize s.2 50 (u.2 68 k) = e at c3 ⊢
    obtain ⟨e1, e2⟩ := (VR_E 26 E e hE1 (Nat.le_refl _)).mp c3
    have eb : 0 ≤ e ∧ e < 1280 := by omega
    refine ⟨by omega, c1, by omega, by omega, by omega, fun q3 => ?_, fun q3 => ?_⟩
    · rcases e2 x hx.1 (by omega) with ⟨_, n2⟩ | ⟨n1, n2⟩
      · exact absurd n2 q3
      · obtain ⟨m1, m2⟩ := VB_lk E x hE2 n1
        refine write1_ok hb h8 ⟨m1, m2⟩ n2 hu.1 (by omega) (fun w hw => ?_)
        have H2 := H2 w hw.1
        rw [if_pos ⟨q2.1, hk, n1⟩] at H2
        exact atB_ok hw.2.1 H2
    · rcases e2 x hx.1 (by omega) with ⟨n1, _⟩ | ⟨n1, n2⟩
      · have H2 := H2 u hu.1
        rw [if_neg (fun c => c.2.2 n1)] at H2
        exact H2
      · have := (VR_kind (VB_lk E x hE2 n1).1 n2).2.1
        omega
  · have H2 := H2 u hu.1
    rw [if_neg (fun c => by omega)] at H2
    exact H2
end
end
section
/-! What was worked out outlives acts. -/
theorem VB_up {s w : SM} (h8 : s.1 8 ≤ w.1 8) : ∀ (n : Nat) (V : Term), SizeOf.sizeOf V < n → VB s V → VB w V := by
  intro n
  induction n with
  | zero => intro V h; omega
  | succ n ih =>
    intro V hn h
    cases V with
    | int z => trivial
    | arg z => exact h
    | index x => exact h
    | null => trivial
    | sub d E =>
      cases d with
      | index d => exact ⟨Int.lt_of_lt_of_le h.1 h8, h.2.1, ih E (by simp at hn; omega) h.2.2⟩
      | _ => exact h.elim
    | add A B => exact ⟨⟨h.1.1, ih A (by simp at hn; omega) h.1.2⟩, h.2.1, ih B (by simp at hn; omega) h.2.2⟩
    | div d E =>
      cases d with
      | index b => exact ⟨Int.lt_of_lt_of_le h.1 h8, h.2.1, ih E (by simp at hn; omega) h.2.2⟩
      | _ => exact h.elim
    | length A => exact ⟨h.1, ih A (by simp at hn; omega) h.2⟩
    | rem b q =>
      cases b with
      | index b =>
        cases q with
        | elem A q =>
          cases q with
          | elem B E =>
            obtain ⟨⟨b1, a1, a2⟩, hB, hE⟩ := h
            exact ⟨⟨Int.lt_of_lt_of_le b1 h8, a1, ih A (by simp at hn; omega) a2⟩, hB.imp (fun q => ⟨q.1, ih B (by simp at hn; omega) q.2⟩) id, hE.imp (fun q => ⟨q.1, ih E (by simp at hn; omega) q.2⟩) id⟩
          | _ => exact h.elim
        | _ => exact h.elim
      | _ => exact h.elim
    | mul r x =>
      have h : VB s r ∧ (x = .null ∨ (isV x = true ∧ VB s x)) := h
      exact ⟨ih r (by simp at hn; omega) h.1, h.2.imp id (fun q => ⟨q.1, ih x (by simp at hn; omega) q.2⟩)⟩
    | _ => exact h.elim
theorem outT_cg {s : SM} {so so' : Int → Int} (hs : ∀ b : Nat, (b : Int) < s.1 8 → so' b = so b) : ∀ (n : Nat) (V : Term), SizeOf.sizeOf V < n → isV V = true → VB s V → ∀ o, outT so' V o = outT so V o := by
  intro n
  induction n with
  | zero => intro V h; omega
  | succ n ih =>
    intro V hn hv h o
    cases V with
    | add A B =>
      show gd o (pB 93 (outT so' B (pB 32 (outT so' A (pB 91 o))))) = gd o (pB 93 (outT so B (pB 32 (outT so A (pB 91 o)))))
      rw [ih A (by simp at hn; omega) h.1.1 h.1.2, ih B (by simp at hn; omega) h.2.1 h.2.2]
    | length A =>
      show gd o (pB 125 (outT so' A (pB 123 o))) = gd o (pB 125 (outT so A (pB 123 o)))
      rw [ih A (by simp at hn; omega) h.1 h.2]
    | rem b q =>
      cases b with
      | index x =>
        cases q with
        | elem A q =>
          cases q with
          | elem B E =>
            obtain ⟨⟨b1, a1, a2⟩, hB, -⟩ := h
            show gd o (outZ (so' x) x (if isV B = true then outT so' B (pB 32 (outT so' A (pB 32 (pW (wrd (so' x)) (pB 40 o))))) else outT so' A (pB 32 (pW (wrd (so' x)) (pB 40 o))))) = gd o (outZ (so x) x (if isV B = true then outT so B (pB 32 (outT so A (pB 32 (pW (wrd (so x)) (pB 40 o))))) else outT so A (pB 32 (pW (wrd (so x)) (pB 40 o)))))
            rw [hs x b1, ih A (by simp at hn; omega) a1 a2]
            by_cases q : isV B = true
            · rcases hB with hB | hB
              · rw [if_pos q, if_pos q, ih B (by simp at hn; omega) hB.1 hB.2]
              · rw [hB] at q; cases q
            · rw [if_neg q, if_neg q]
          | _ => cases hv
        | _ => cases hv
      | _ => cases hv
    | int z => rfl
    | arg z => rfl
    | index x => rfl
    | sub x E =>
      cases x with
      | index x => rfl
      | _ => cases hv
    | div x E =>
      cases x with
      | index x => rfl
      | _ => cases hv
    | _ => cases hv
/-- the bytes of a value stay while births and sorts do -/
theorem wrt_cg {s w : SM} {V : Term} (hV : isV V = true ∧ VB s V) (hs : ∀ b : Nat, (b : Int) < s.1 8 → w.2 9 b = s.2 9 b) : wrt w V = wrt s V := outT_cg hs (SizeOf.sizeOf V + 1) V (Nat.lt_succ_self _) hV.1 hV.2 _
end
section
/-! Numbers and kinds are borne just where a sort bears them: kept by what writes and by what is born. -/
theorem NV_ag {s w : SM} (h : NV s) (h8 : w.1 8 = s.1 8) (hr : ∀ y, 0 ≤ y → y < s.1 8 → w.2 9 y = s.2 9 y ∧ w.2 10 y = s.2 10 y ∧ w.2 11 y = s.2 11 y) : NV w := fun x x0 x1 => by
  obtain ⟨a, b, c⟩ := hr x x0 (by omega)
  rw [a, b, c]
  exact h x x0 (by omega)
theorem NV_new {s w : SM} {so v k : Int} (h : NV s) (h8 : w.1 8 = s.1 8 + 1) (hn : w.2 9 (s.1 8) = so ∧ w.2 10 (s.1 8) = nvl so v ∧ w.2 11 (s.1 8) = kvl so k) (hr : ∀ y, 0 ≤ y → y < s.1 8 → w.2 9 y = s.2 9 y ∧ w.2 10 y = s.2 10 y ∧ w.2 11 y = s.2 11 y) : NV w := fun x x0 x1 => by
  by_cases e : x < s.1 8
  · obtain ⟨a, b, c⟩ := hr x x0 e
    rw [a, b, c]
    exact h x x0 e
  · obtain rfl : x = s.1 8 := by omega
    obtain ⟨a, b, c⟩ := hn
    rw [a, b, c]
    unfold nvl kvl
    refine ⟨?_, ?_⟩
    · split <;> rfl
    · split <;> rfl
theorem NV_write {s : SM} {v : Int} (h : NV s) (hc : 0 ≤ s.1 16 ∧ s.1 16 < s.1 8) (hg : wriOk s v) : NV (ua s 10 (s.1 16) v) := fun x x0 x1 => by
  have e9 : (ua s 10 (s.1 16) v).2 9 = s.2 9 := by
    funext y
    simp only [ua_2]
    exact if_neg (fun q => absurd q.1 (by decide))
  have e11 : (ua s 10 (s.1 16) v).2 11 = s.2 11 := by
    funext y
    simp only [ua_2]
    exact if_neg (fun q => absurd q.1 (by decide))
  have h0 := h x x0 x1
  rw [e9, e11]
  refine ⟨?_, h0.2⟩
  show nvl (s.2 9 x) (if 10 = 10 ∧ x = s.1 16 then v else s.2 10 x) = (if 10 = 10 ∧ x = s.1 16 then v else s.2 10 x)
  by_cases e : x = s.1 16
  · rw [if_pos ⟨rfl, e⟩, e]
    exact if_pos (by have := hg.1; omega)
  · rw [if_neg (fun q => e q.2)]
    exact h0.1
end
