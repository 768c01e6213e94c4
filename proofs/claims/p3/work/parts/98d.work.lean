/-! The reference works as evw says: nodes. -/
theorem num_in {h0 : MH} {s : SM} (h : ∃ H, RepM h0 s H) {b : Int} (hb : 0 ≤ b ∧ b < 3004) : inR (s.2 10 b) := by
  obtain ⟨H, -, -, -, hA⟩ := h
  obtain ⟨l, -, h2⟩ := hA 10 _ _ _ (rfl : mfl[10]? = some (some (314, 0, 3004)))
  have := (h2 b.toNat (by omega)).2
  rw [show ((b.toNat : Nat) : Int) = b by omega] at this
  exact this
section
variable {iv : List (Int × Int)} {L : Nat} {h0 : MH} {σ s : SM} {t : Term} {d n : Nat} {most B C st k : Int}
theorem EV_okw (hX : WCX σ t most B C) (n : Nat) : ∀ b E st, b ∈ fl t → isE 26 E → VN σ t E → cov σ b E → st ≤ most → RO σ t most st ((EV σ most n).1 b E st) := evw_okw hX.1.1 hX.1.2.1 hX.1.2.2 most n
theorem EV_ok (hX : WCX σ t most B C) (hFN : FN σ t) (n : Nat) : (∀ b E st, b ∈ fl t → isE 26 E → VN σ t E → cov σ b E → st ≤ most → RO σ t most st ((EV σ most n).1 b E st)) ∧ (∀ v st, isV v = true → VO σ t v → st ≤ most → RO σ t most st ((EV σ most n).2 v st)) := evw_ok hX.1.1 hX.1.2.1 hX.1.2.2 hFN most n
theorem plain_ok {b e : Int} {E : Term} {F : Int → SM → Prop} (hX : WCX σ t most B C) (hW : WCO iv L h0 σ t most B C n) (hS : WS σ most B C n st 2 s) (hb : b ∈ fl t) (hE : isE 26 E ∧ VN σ t E ∧ cov σ b E) (he : VR s B (s.1 52) C (s.1 54) E e) (hF : ∀ r w, WP B C 1 1 s st (wplE (σ.2 9) (σ.2 10) (σ.2 14) (σ.2 21) (EV σ most n).1 b E st) r w → F r w) : cm iv L h0 (3 * n + 10) 127 [vr 307, vi b, vi e] s (qi F) := by
  refine wc_ok (fun _ hrep => ?_)
  obtain ⟨m1, m2⟩ := hX.bc
  obtain ⟨⟨hT, hN, hR⟩, -⟩ := id hX
  have hbl := hT.lt hb
  obtain ⟨n1, n2, n3, n4⟩ := hN b hbl.1 hbl.2.1
  have h52 : B ≤ s.1 52 ∧ s.1 52 ≤ 1300 * σ.1 55 + 610 := by obtain ⟨a1, a2, a3, a4, a5⟩ := hS; omega
  have h54 : C ≤ s.1 54 ∧ s.1 54 ≤ 640 * σ.1 55 + 610 := by obtain ⟨a1, a2, a3, a4, a5⟩ := hS; omega
  have e9 : s.2 9 = σ.2 9 := hS.row (by decide)
  have e10 : s.2 10 = σ.2 10 := hS.row (by decide)
  have e14 : s.2 14 = σ.2 14 := hS.row (by decide)
  have e21 : s.2 21 = σ.2 21 := hS.row (by decide)
  have nin := num_in hrep (b := b) (by omega)
  rw [e10] at nin
  obtain ⟨c1, c2⟩ := (VR_E 26 E e hE.1 (Nat.le_refl _)).mp he
  have eb : ((b.toNat : Nat) : Int) = b := by omega
  have ow := EV_okw hX n
  unfold wplE at hF
  have prt : ∀ i, 0 ≤ i → i < pO (σ.2 9 b) → ¬ (σ.2 9 b = 8 ∨ (σ.2 9 b = 10 ∧ i = 1)) → σ.2 14 (3 * b + i) ∈ fl t ∧ cov σ (σ.2 14 (3 * b + i)) E := fun i i0 i1 hn => cov_part hT hb ⟨i0, i1⟩ hn hE.2.2
  have prt0 : 0 < pO (σ.2 9 b) → ¬ σ.2 9 b = 8 → σ.2 14 (3 * b) ∈ fl t ∧ cov σ (σ.2 14 (3 * b)) E := fun i1 hn => by
    have := prt 0 (Int.le_refl 0) i1 (by omega)
    rw [Int.add_zero] at this
    exact this
  refine B127 ⟨by omega, ?_⟩
  rw [e9, e10, e14, e21]
  refine ⟨fun q => ?_, fun q => ?_, fun q => ?_, fun q => ?_, fun q => ?_, fun q => ?_, fun q => ?_, fun q => ?_⟩
  · rw [if_pos q] at hF
    refine wp_new (V := .div (.index b.toNat) E) hX hS (by decide) (fun q => by omega) (fun w hw hkp hlo h54 => ⟨e, ?_, VR_k he hkp (by omega) (by omega)⟩) (fun w hw => hF _ w (hw.up (by decide) (by decide)))
    rw [eb]
    exact vcel hw hlo (by rw [if_pos (Or.inl (by decide))])
  · rw [if_neg (by omega), if_pos q] at hF
    refine wp_new (V := .int (Int32.ofInt (σ.2 10 b))) hX hS (by decide) (fun q => by omega) (fun w hw hkp hlo h54 => ?_) (fun w hw => hF _ w (hw.up (by decide) (by decide)))
    show cel w B (w.1 52) (s.1 52) 0 (Int32.ofInt (σ.2 10 b)).toInt (-9) (-9) (-9) 0
    rw [i_to nin]
    exact vcel hw hlo (by rw [if_neg (by omega)])
  · rw [if_neg (by omega), if_neg (by omega), if_pos q] at hF
    refine wp_new (V := .arg (σ.2 10 b).toNat) hX hS (by decide) (fun q => by omega) (fun w hw hkp hlo h54 => ?_) (fun w hw => hF _ w (hw.up (by decide) (by decide)))
    have := n3 q
    show cel w B (w.1 52) (s.1 52) 1 (((σ.2 10 b).toNat : Nat) : Int) (-9) (-9) (-9) 0
    rw [show (((σ.2 10 b).toNat : Nat) : Int) = σ.2 10 b by omega]
    exact vcel hw hlo (by rw [if_neg (by omega)])
  · rw [if_neg (by omega), if_neg (by omega), if_neg (by omega), if_pos q] at hF
    have hnu := n2 (Or.inl q)
    refine ⟨fun q2 => ⟨by omega, by omega, by omega, ?_⟩, fun q2 => ?_⟩
    · rw [if_neg q2] at hF
      refine hF _ s ⟨FRM.rf, ⟨Int.le_refl _, by show s.1 52 ≤ s.1 52 + 2 * (st - st) + 1; omega⟩, ⟨Int.le_refl _, by show s.1 54 ≤ s.1 54 + 2 * (st - st) + 1; omega⟩, ⟨hS.2.1.1, rfl, hS.2.1.2.2.1, hS.2.1.2.2.2⟩, fun _ => ?_⟩
      rcases c2 (σ.2 10 b) hnu.1 hnu.2 with c | c
      · exact absurd c.1 (hE.2.2 _ hnu.1 hnu.2 (hR b hb q q2))
      · exact c.2
    · rw [if_pos q2] at hF
      refine wp_new (V := .index (σ.2 10 b).toNat) hX hS (by decide) (fun q => by omega) (fun w hw hkp hlo h54 => ?_) (fun w hw => hF _ w (hw.up (by decide) (by decide)))
      show cel w B (w.1 52) (s.1 52) 5 (((σ.2 10 b).toNat : Nat) : Int) (-9) (-9) (-9) 1
      rw [show (((σ.2 10 b).toNat : Nat) : Int) = σ.2 10 b by omega]
      exact vcel hw hlo (by rw [if_pos (Or.inl (by decide))])
  · -- acts
    rw [if_neg (by omega), if_neg (by omega), if_neg (by omega), if_neg (by omega), if_neg (by omega), if_neg (by omega), if_neg (by omega)] at hF
    have hp1 : 0 < pO (σ.2 9 b) := by
      rcases (show σ.2 9 b = 4 ∨ σ.2 9 b = 5 ∨ σ.2 9 b = 6 ∨ σ.2 9 b = 7 ∨ σ.2 9 b = 9 ∨ σ.2 9 b = 11 ∨ σ.2 9 b = 12 ∨ σ.2 9 b = 13 ∨ σ.2 9 b = 14 by omega) with e | e | e | e | e | e | e | e | e <;> rw [e] <;> decide
    obtain ⟨p1, p2⟩ := prt0 hp1 (by omega)
    obtain ⟨r1, r2, r3⟩ := ow _ E st p1 hE.1 hE.2.1 p2 hS.2.2.1.2
    refine ⟨by omega, by omega, sub_ok hW p1 ⟨hE.1, hE.2.1, p2⟩ he hS (by decide) (by omega) (fun r w hw => ?_)⟩
    have w59 : w.1 59 = ((EV σ most n).1 (σ.2 14 (3 * b)) E st).2.1 := hw.2.2.2.1.2.2.1
    have hkp := hw.1.keep (lo := B) (elo := C) (Or.inl (Int.le_refl _)) (Or.inl (Int.le_refl _))
    by_cases g0 : ((EV σ most n).1 (σ.2 14 (3 * b)) E st).2.1 = 0
    · obtain ⟨x1, x2, x3⟩ := r3 g0
      rw [bnR_0 g0] at hF
      have S2 : WS σ most B C n ((EV σ most n).1 (σ.2 14 (3 * b)) E st).1 2 w := hS.nx hw r1 ⟨g0, x1⟩ (by decide)
      have w9 : w.2 9 = σ.2 9 := S2.row (by decide)
      have w14 : w.2 14 = σ.2 14 := S2.row (by decide)
      have vx := hw.2.2.2.2 g0
      have he2 := VR_k he hkp hw.2.1.1 hw.2.2.1.1
      rw [w9, w59, g0, w14]
      have a2 : ¬ pO (σ.2 9 b) = 2 → cm iv L h0 (3 * n + 9) 128 [vr 307, vi b, vi r, vi (-9), vi e] w (qi fun r19 s18 => F r19 s18) := fun hp => by
        rw [if_neg hp] at hF
        exact actM_ok hX hW (S2.up (by decide)) hb (by omega) ⟨⟨x2, x3⟩, vx⟩ (fun q3 => by exfalso; rcases q3 with q | q | q | q | q | q <;> rw [q] at hp <;> exact hp rfl) (fun _ => ⟨hE, he2⟩) (fun r v hv => hF r v ((hw.tr hv).up (by decide) (by decide)))
      refine ⟨by omega, fun hp => ⟨fun _ => a2 hp, fun c => by omega⟩, fun hp => ⟨fun c => absurd rfl c, fun _ => ?_⟩⟩
      rw [if_pos hp] at hF
      obtain ⟨p3, p4⟩ := prt 1 (by decide) (by omega) (by omega)
      obtain ⟨y1, y2, y3⟩ := ow _ E ((EV σ most n).1 (σ.2 14 (3 * b)) E st).1 p3 hE.1 hE.2.1 p4 r1.2
      refine ⟨by omega, by omega, sub_ok hW p3 ⟨hE.1, hE.2.1, p4⟩ he2 S2 (by decide) (by omega) (fun r' w' hw' => ?_)⟩
      have w59' : w'.1 59 = ((EV σ most n).1 (σ.2 14 (3 * b + 1)) E ((EV σ most n).1 (σ.2 14 (3 * b)) E st).1).2.1 := hw'.2.2.2.1.2.2.1
      have hkp' := hw'.1.keep (lo := B) (elo := C) (Or.inl (Int.le_refl _)) (Or.inl (Int.le_refl _))
      rw [w59']
      by_cases g1 : ((EV σ most n).1 (σ.2 14 (3 * b + 1)) E ((EV σ most n).1 (σ.2 14 (3 * b)) E st).1).2.1 = 0
      · obtain ⟨z1, z2, z3⟩ := y3 g1
        rw [bnR_0 g1] at hF
        have S3 := S2.nx (k' := 2) hw' y1 ⟨g1, z1⟩ (by decide)
        refine ⟨fun _ => actM_ok hX hW (S3.up (by decide)) hb (by omega) ⟨⟨x2, x3⟩, VR_k vx hkp' hw'.2.1.1 hw'.2.2.1.1⟩ (fun _ => ⟨⟨z2, z3⟩, hw'.2.2.2.2 g1⟩) (fun _ => ⟨hE, VR_k he2 hkp' hw'.2.1.1 hw'.2.2.1.1⟩) (fun r v hv => hF r v (((hw.tr hw').tr hv).up (by decide) (by decide))), fun c => by omega⟩
      · rw [bnR_n g1] at hF
        have gp : 0 < ((EV σ most n).1 (σ.2 14 (3 * b + 1)) E ((EV σ most n).1 (σ.2 14 (3 * b)) E st).1).2.1 := by have := y2.resolve_left g1; omega
        exact ⟨fun c => by omega, fun _ => hF _ w' (((hw.tr hw').up (by decide) (by decide)).st g1)⟩
    · rw [bnR_n g0] at hF
      have gp : 0 < ((EV σ most n).1 (σ.2 14 (3 * b)) E st).2.1 := by have := r2.resolve_left g0; omega
      have fin : F (-9) w := hF _ w ((hw.up (by decide) (by decide)).st g0)
      have w9 : w.2 9 = σ.2 9 := by
        have := hw.1.1.2 9 (by decide)
        rw [this, e9]
      rw [w9, w59]
      exact ⟨by omega, fun _ => ⟨fun c => by omega, fun _ => fin⟩, fun _ => ⟨fun _ => ⟨fun c => by omega, fun _ => fin⟩, fun c => absurd c g0⟩⟩
  · rw [if_neg (by omega), if_neg (by omega), if_neg (by omega), if_neg (by omega), if_pos q] at hF
    refine wp_new (V := .sub (.index b.toNat) E) hX hS (by decide) (fun q => by omega) (fun w hw hkp hlo h54 => ⟨e, ?_, VR_k he hkp (by omega) (by omega)⟩) (fun w hw => hF _ w (hw.up (by decide) (by decide)))
    rw [eb]
    exact vcel hw hlo (by rw [if_neg (by omega)])
  · -- let
    rw [if_neg (by omega), if_neg (by omega), if_neg (by omega), if_neg (by omega), if_neg (by omega), if_neg (by omega), if_pos q] at hF
    have hnu := n2 (Or.inr (Or.inr q))
    obtain ⟨p1, p2⟩ := prt0 (by rw [q]; decide) (by omega)
    obtain ⟨r1, r2, r3⟩ := ow _ E st p1 hE.1 hE.2.1 p2 hS.2.2.1.2
    refine ⟨by omega, by omega, sub_ok hW p1 ⟨hE.1, hE.2.1, p2⟩ he hS (by decide) (by omega) (fun r w hw => ?_)⟩
    have w59 : w.1 59 = ((EV σ most n).1 (σ.2 14 (3 * b)) E st).2.1 := hw.2.2.2.1.2.2.1
    have hkp := hw.1.keep (lo := B) (elo := C) (Or.inl (Int.le_refl _)) (Or.inl (Int.le_refl _))
    rw [w59]
    by_cases g0 : ((EV σ most n).1 (σ.2 14 (3 * b)) E st).2.1 = 0
    · obtain ⟨x1, x2, x3⟩ := r3 g0
      rw [bnR_0 g0] at hF
      have S2 : WS σ most B C n ((EV σ most n).1 (σ.2 14 (3 * b)) E st).1 2 w := hS.nx hw r1 ⟨g0, x1⟩ (by decide)
      have w10 : w.2 10 = σ.2 10 := S2.row (by decide)
      have w14 : w.2 14 = σ.2 14 := S2.row (by decide)
      have he2 := VR_k he hkp hw.2.1.1 hw.2.2.1.1
      have vx := hw.2.2.2.2 g0
      have cb := cov_bind hT hN (i := 1) hb (by rw [q]; decide) (Or.inr ⟨q, rfl⟩) hE.1 (isV_nn x2) hE.2.2
      have w54 : C ≤ w.1 54 ∧ w.1 54 ≤ 640 * σ.1 55 + 610 := by obtain ⟨a1, a2, a3, a4, a5⟩ := S2; omega
      refine ⟨fun _ => wp_bind hX S2 (by decide) hE.1 hnu he2 ⟨x2, vx⟩ (fun v v10 v14 hv => ?_), fun c => by omega⟩
      rw [v10, v14, w10, w14]
      have S3 := S2.nx (k' := 0) hv ⟨Int.le_refl _, S2.2.2.1.2⟩ ⟨rfl, rfl⟩ (by decide)
      exact ⟨by omega, by omega, by omega, by omega, by omega, sub_ok hW cb.1 ⟨upE_is 26 _ _ _ hE.1, VN_up _ _ _ hE.2.1 x2 x3, cb.2⟩ (hv.2.2.2.2 rfl) S3 (by decide) (by omega) (fun r' v' hv' => hF r' v' (((hw.tr hv).tr hv').up (by decide) (by decide)))⟩
    · rw [bnR_n g0] at hF
      have gp : 0 < ((EV σ most n).1 (σ.2 14 (3 * b)) E st).2.1 := by have := r2.resolve_left g0; omega
      exact ⟨fun c => by omega, fun _ => hF _ w ((hw.up (by decide) (by decide)).st g0)⟩
  · rw [if_neg (by omega), if_neg (by omega), if_neg (by omega), if_neg (by omega), if_neg (by omega), if_pos q] at hF
    obtain ⟨p1, p2⟩ := prt0 (by rw [q]; decide) (by omega)
    exact ⟨by omega, by omega, sub_ok hW p1 ⟨hE.1, hE.2.1, p2⟩ he hS (by decide) (by omega) (fun r w hw => hF r w (hw.up (by decide) (by decide)))⟩
/-- one step is begun -/
theorem beg_ok {b : Int} {F : Int → SM → Prop} (hX : WCX σ t most B C) (hS : WS σ most B C n st k s) (hn : n ≤ 60) (H0 : (n = 0 ∨ st = most) → ∀ w, WP B C 0 0 s st (rst st 4 b) (-9) w → F 0 w) (H1 : ∀ n', n = n' + 1 → st ≠ most → ∀ w, WS σ most B C n' (st + 1) (k + 2) w → eqx [56, 58] [] s w → w.1 56 = st + 1 → w.1 58 = s.1 58 + 1 → F 1 w) : cm iv L h0 d 123 [vr 307, vi b] s (qi F) := by
  obtain ⟨m1, m2⟩ := hX.bc
  have e57 : s.1 57 = most := (hS.1.1 57 (by decide)).trans hX.2.1
  obtain ⟨a1, a2, a3, a4, a5⟩ := id hS
  have stop : WP B C 0 0 s st (rst st 4 b) (-9) (us (us s 59 4) 60 b) := ⟨⟨eqx_us (eqx_us eqx.rf (by decide)) (by decide), fun _ _ _ _ => rfl, fun _ _ => rfl⟩, ⟨Int.le_refl _, by show s.1 52 ≤ s.1 52 + 2 * (st - st) + 0; omega⟩, ⟨Int.le_refl _, by show s.1 54 ≤ s.1 54 + 2 * (st - st) + 0; omega⟩, ⟨a2.1, rfl, rfl, rfl⟩, fun q => by cases q⟩
  refine B123 ⟨fun q => H0 (Or.inr (by omega)) _ stop, fun q => ⟨fun q2 => ⟨by omega, by omega, ?_⟩, fun q2 => H0 (Or.inl (by omega)) _ stop⟩⟩
  obtain ⟨n', rfl⟩ : ∃ k, n = k + 1 := ⟨n - 1, by omega⟩
  refine H1 n' rfl (by omega) _ ⟨?_, ⟨?_, ?_, a2.2.2.1, a2.2.2.2⟩, by omega, ⟨a4.1, ?_⟩, a5.1, ?_⟩ (eqx_us (eqx_us eqx.rf (by decide)) (by decide)) ?_ rfl
  · exact eqx_us (eqx_us a1 (by decide)) (by decide)
  · show s.1 56 + 1 = st + 1; omega
  · show s.1 58 + 1 = 60 - (n' : Int); omega
  · show s.1 52 + 2 * (most - (st + 1)) + (k + 2) ≤ 1300 * σ.1 55 + 610; omega
  · show s.1 54 + 2 * (most - (st + 1)) + (k + 2) ≤ 640 * σ.1 55 + 610; omega
  · show s.1 56 + 1 = st + 1; omega
/-- behind a begun step: a level less is open -/
theorem lev_ok {s1 w : SM} {R : RS} {r kv ke : Int} (he : eqx [56, 58] [] s s1) (h58 : s1.1 58 = s.1 58 + 1) (hw : WP B C kv ke s1 (st + 1) R r w) (hkv : kv ≤ 2 ∧ ke ≤ 2) : WP B C (kv - 2) (ke - 2) s st R r (us w 58 (w.1 58 - 1)) := by
  obtain ⟨⟨b1, b6, b7⟩, b2, b3, b4, b5⟩ := hw
  have e52 : s1.1 52 = s.1 52 := he.1 52 (by decide)
  have e54 : s1.1 54 = s.1 54 := he.1 54 (by decide)
  refine ⟨⟨eqx_us ((he.up (by decide) (by decide)).tr b1) (by decide), fun f v hf hv => ?_, fun j hj => ?_⟩, ⟨by show s.1 52 ≤ w.1 52; omega, by show w.1 52 ≤ _; omega⟩, ⟨by show s.1 54 ≤ w.1 54; omega, by show w.1 54 ≤ _; omega⟩, ⟨b4.1, ?_, b4.2.2.1, b4.2.2.2⟩, fun q => ?_⟩
  · show w.2 f v = s.2 f v
    rw [b6 f v hf (by rw [e52]; exact hv), he.2 f (by simp)]
  · show w.2 53 j = s.2 53 j
    rw [b7 j (by rw [e54]; exact hj), he.2 53 (by simp)]
  · show w.1 58 - 1 = s.1 58
    rw [b4.2.1, h58]; omega
  · exact VR_k (b5 q) ⟨fun _ _ _ _ _ => rfl, fun _ _ _ => rfl⟩ (Int.le_refl _) (Int.le_refl _)
theorem WCO_all (hX : WCX σ t most B C) : ∀ n : Nat, n ≤ 60 → WCO iv L h0 σ t most B C n := by
  intro n
  induction n with
  | zero =>
    intro _ b e st E s hb hE hV hc he hS
    show cm iv L h0 (7 + 1) 126 [vr 307, vi b, vi e] s _
    refine B126 (beg_ok hX hS (by decide) (fun _ w hw => ⟨fun q => absurd rfl q, fun _ => hw⟩) (fun n' h => by omega))
  | succ n ih =>
    intro hn b e st E s hb hE hV hc he hS
    obtain ⟨m1, m2⟩ := hX.bc
    obtain ⟨⟨hT, hN, hR⟩, -⟩ := id hX
    have hbl := hT.lt hb
    have ev : ∀ R : RS, R = (EV σ most (n + 1)).1 b E st → R = if st = most then rst st 4 b else frmE (σ.2 21) b (wplE (σ.2 9) (σ.2 10) (σ.2 14) (σ.2 21) (EV σ most n).1 b E (st + 1)) := fun R h => h
    have ow := EV_okw hX n
    rw [show 3 * (n + 1) + 8 = (3 * n + 10) + 1 by omega]
    refine B126 (beg_ok hX hS hn (fun q w hw => ⟨fun c => absurd rfl c, fun _ => ?_⟩) (fun n' h hst s1 S1 he1 h56 h58 => ⟨fun _ => ?_, fun c => by cases c⟩))
    · rw [ev _ rfl, if_pos (q.resolve_left (by omega))]
      exact hw
    · obtain rfl : n = n' := by omega
      have h52 : s1.1 52 = s.1 52 := he1.1 52 (by decide)
      have h54 : s1.1 54 = s.1 54 := he1.1 54 (by decide)
      have he' : VR s1 B (s1.1 52) C (s1.1 54) E e := VR_k he ⟨fun f _ _ _ _ => by rw [he1.2 f (by simp)], fun _ _ _ => by rw [he1.2 53 (by simp)]⟩ (by omega) (by omega)
      have hRO : RO σ t most (st + 1) (wplE (σ.2 9) (σ.2 10) (σ.2 14) (σ.2 21) (EV σ most n).1 b E (st + 1)) := work_ok1 hT hN hR (most := most) (fun b E st h1 h2 h3 h4 h5 => ow b E st h1 h2 h3 h4 h5) hb hE hV hc S1.2.2.1.2
      refine plain_ok hX (ih (by omega)) (S1.up (by decide)) hb ⟨hE, hV, hc⟩ he' (fun r w hw => ?_)
      have evn := ev _ rfl
      rw [if_neg hst] at evn
      have w58 := hw.2.2.2.1.2.1
      have w59 := hw.2.2.2.1.2.2.1
      have S58 := hS.2.1.2.1
      have w21 : w.2 21 = σ.2 21 := (hw.1.1.2 21 (by decide)).trans ((he1.2 21 (by decide)).trans (hS.row (by decide)))
      have lv := lev_ok he1 h58 hw (by decide)
      rw [w21]
      refine ⟨by omega, fun q => ⟨by omega, fun q2 => ?_, fun q2 => ?_⟩, fun q => ?_⟩
      · rw [evn]
        unfold frmE
        rw [if_neg (by omega)]
        exact lv.up (by decide) (by decide)
      · rw [evn]
        unfold frmE
        rw [if_pos q2]
        have g0 : (wplE (σ.2 9) (σ.2 10) (σ.2 14) (σ.2 21) (EV σ most n).1 b E (st + 1)).2.1 = 0 := by have := hRO.2.1; omega
        rw [bnR_0 g0]
        obtain ⟨x1, x2, x3⟩ := hRO.2.2 g0
        have vx := hw.2.2.2.2 g0
        -- as a state in the midst of the level above
        have S3 : WS σ most B C (n + 1) (wplE (σ.2 9) (σ.2 10) (σ.2 14) (σ.2 21) (EV σ most n).1 b E (st + 1)).1 1 (us w 58 (w.1 58 - 1)) := by
          have := hS.nx (k' := 1) lv ⟨by have := hRO.1; omega, hRO.1.2⟩ ⟨g0, x1⟩ (by decide)
          exact this
        refine wp_new (V := .length _) hX S3 (by decide) (fun q => by omega) (fun v hv hkp hlo h54 => ⟨r, vcel hv hlo (by rw [if_pos (Or.inl (by decide))]), VR_k vx ?_ (by show w.1 52 ≤ v.1 52; have : (us w 58 (w.1 58 - 1)).1 52 = w.1 52 := rfl; omega) (by show w.1 54 ≤ v.1 54; have : (us w 58 (w.1 58 - 1)).1 54 = w.1 54 := rfl; omega)⟩) (fun v hv => (lv.tr hv).up (by decide) (by decide))
        exact hkp
      · rw [evn]
        have gn : (wplE (σ.2 9) (σ.2 10) (σ.2 14) (σ.2 21) (EV σ most n).1 b E (st + 1)).2.1 ≠ 0 := by omega
        have : frmE (σ.2 21) b (wplE (σ.2 9) (σ.2 10) (σ.2 14) (σ.2 21) (EV σ most n).1 b E (st + 1)) = wplE (σ.2 9) (σ.2 10) (σ.2 14) (σ.2 21) (EV σ most n).1 b E (st + 1) := by
          unfold frmE
          split
          · exact bnR_n gn
          · rfl
        rw [this]
        exact (lv.up (by decide) (by decide)).st gn
end
