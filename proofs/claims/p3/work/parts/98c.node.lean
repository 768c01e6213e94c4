/-! The reference works as evw says: an act is done, a node is worked. -/
section
variable {iv : List (Int × Int)} {L : Nat} {h0 : MH} {σ s : SM} {t : Term} {d n : Nat} {most B C st k : Int}
/-- a part is worked, whatever came before -/
theorem sub_ok {b e : Int} {E : Term} {F : Int → SM → Prop} {D : Nat} (hW : WCO iv L h0 σ t most B C n) (hb : b ∈ fl t) (hE : isE 26 E ∧ VN σ t E ∧ cov σ b E) (he : VR s B (s.1 52) C (s.1 54) E e) (hS : WS σ most B C n st k s) (hk : 0 ≤ k) (hD : 3 * n + 8 ≤ D) (hF : ∀ r w, WP B C 0 0 s st ((EV σ most n).1 b E st) r w → F r w) : cm iv L h0 D 126 [vr 307, vi b, vi e] s (qi F) :=
  wci_mono (hW b e st E s hb hE.1 hE.2.1 hE.2.2 he (hS.up hk)) hD hF
theorem actM_ok {b x y e : Int} {X Y E : Term} {F : Int → SM → Prop} (hX : WCX σ t most B C) (hW : WCO iv L h0 σ t most B C n) (hS : WS σ most B C n st 1 s) (hb : b ∈ fl t) (hso : 4 ≤ σ.2 9 b ∧ σ.2 9 b < 15 ∧ σ.2 9 b ≠ 8 ∧ σ.2 9 b ≠ 10) (hx : (isV X = true ∧ VN σ t X) ∧ VR s B (s.1 52) C (s.1 54) X x)
    (hy : (σ.2 9 b = 4 ∨ σ.2 9 b = 5 ∨ σ.2 9 b = 6 ∨ σ.2 9 b = 7 ∨ σ.2 9 b = 9 ∨ σ.2 9 b = 12) → (isV Y = true ∧ VN σ t Y) ∧ VR s B (s.1 52) C (s.1 54) Y y) (hE : σ.2 9 b = 11 → (isE 26 E ∧ VN σ t E ∧ cov σ b E) ∧ VR s B (s.1 52) C (s.1 54) E e) (hF : ∀ r w, WP B C 1 1 s st (actE (σ.2 9) (σ.2 10) (σ.2 14) (EV σ most n).1 b X Y E st) r w → F r w) : cm iv L h0 (3 * n + 9) 128 [vr 307, vi b, vi x, vi y, vi e] s (qi F) := by
  obtain ⟨m1, m2⟩ := hX.bc
  have hbl := hX.1.1.lt hb
  have hN := hX.1.2.1
  have h52 : B ≤ s.1 52 ∧ s.1 52 ≤ 1300 * σ.1 55 + 610 := by obtain ⟨a1, a2, a3, a4, a5⟩ := hS; omega
  have e9 : s.2 9 = σ.2 9 := hS.row (by decide)
  have e10 : s.2 10 = σ.2 10 := hS.row (by decide)
  have e14 : s.2 14 = σ.2 14 := hS.row (by decide)
  obtain ⟨kx1, kx2, kx3⟩ := VR_kind hx.1.1 hx.2
  unfold actE at hF
  -- what is left of it, or a clash
  have lft : ∀ (y' e' : Int) (Y' E' : Term), ((Y' = .null ∧ y' = -9) ∨ (Y' ≠ .null ∧ VR s B (s.1 52) C (s.1 54) Y' y')) → ((E' = .null ∧ e' = -9) ∨ (E' ≠ .null ∧ VR s B (s.1 52) C (s.1 54) E' e')) → (∀ r w, WP B C 1 1 s st (lftE b X Y' E' st) r w → F r w) → cm iv L h0 (3 * n + 8) 125 [vr 307, vi x] s (qi fun r6 s5 => ((r6 = 0 → cm iv L h0 (3 * n + 8) 124 [vr 307, vi 3, vi b] s5 (qi fun r8 s7 => F r8 s7)) ∧ (r6 ≠ 0 → cm iv L h0 (3 * n + 8) 121 [vr 307, vi 7, vi b, vi x, vi y', vi e'] s5 (qi fun r10 s9 => F r10 s9)))) := fun y' e' Y' E' hy' he' hG => by
    unfold lftE at hG
    refine isLeft_ok hx.1.1 hx.2 (by omega) ⟨fun q => ?_, fun q => ?_⟩
    · have : isW X = false := by
        cases h : isW X with
        | false => rfl
        | true => rw [h] at q; cases q
      rw [this, if_neg (by decide)] at hG
      exact wp_stop hS (fun w hw => hG _ w (hw.up (by decide) (by decide))) (by decide)
    · have : isW X = true := Classical.byContradiction fun c => by rw [if_neg c] at q; exact q rfl
      rw [if_pos this] at hG
      exact wp_lft hX hS (by decide) hbl.1 ⟨hx.1.1, hx.2⟩ hy' he' (fun w hw => hG _ w (hw.up (by decide) (by decide)))
  refine B128 ⟨by omega, fun q => ?_, fun q => ?_, fun q => ?_, fun q => ?_, fun q => ?_⟩
  · rw [e9] at q
    obtain ⟨y1, y2⟩ := hy (by omega)
    rw [if_pos q] at hF
    have h8 : 3 * n + 8 = (3 * n + 7) + 1 := by omega
    rw [h8]
    exact reck_ok hX hS (by decide) hb q ⟨hx.1.1, hx.2⟩ ⟨y1.1, y2⟩ (fun r w hw => hF r w (hw.up (by decide) (by decide)))
  · -- first, second
    rw [e9] at q ⊢
    rw [if_neg (by omega), if_neg (by omega), if_neg (by omega), if_neg (by omega)] at hF
    refine ⟨by omega, fun q3 => ?_, fun q3 => ?_⟩
    · refine lft (-9) (-9) .null .null (Or.inl ⟨rfl, rfl⟩) (Or.inl ⟨rfl, rfl⟩) (fun r w hw => hF r w ?_)
      unfold hlfE
      cases X with
      | add A A' => exact absurd kx1 q3
      | _ => exact hw
    · have hP : ∃ A A', X = .add A A' := by
        rw [q3] at kx1
        cases X with
        | add A A' => exact ⟨A, A', rfl⟩
        | sub d E => cases kx1
        | div d E => cases kx1
        | rem d E => cases kx1
        | _ => first | (cases kx1) | (cases hx.1.1)
      obtain ⟨A, A', rfl⟩ := hP
      obtain ⟨a, b', ⟨c0, c1, c2, c3, c4, c5, c6⟩, v1, v2⟩ := hx.2
      have wp : ∀ V v, VR s B (s.1 52) C (s.1 54) V v → WP B C 1 1 s st (rok st V) v s := fun V v hv =>
        ⟨FRM.rf, ⟨Int.le_refl _, by show s.1 52 ≤ s.1 52 + 2 * (st - st) + 1; omega⟩, ⟨Int.le_refl _, by show s.1 54 ≤ s.1 54 + 2 * (st - st) + 1; omega⟩, ⟨hS.2.1.1, rfl, hS.2.1.2.2.1, hS.2.1.2.2.2⟩, fun _ => hv⟩
      refine ⟨fun q4 => ?_, fun q4 => ?_⟩
      · rw [c4]
        refine hF b' s ?_
        show WP B C 1 1 s st (rok st (if σ.2 9 b = 13 then A else A')) b' s
        rw [if_neg q4]
        exact wp A' b' v2
      · rw [c3]
        refine hF a s ?_
        show WP B C 1 1 s st (rok st (if σ.2 9 b = 13 then A else A')) a s
        rw [if_pos q4]
        exact wp A a v1
  · -- use
    rw [e9] at q
    obtain ⟨y1, y2⟩ := hy (by omega)
    rw [if_neg (by omega), if_pos q] at hF
    refine ⟨by omega, fun q3 => ?_, fun q3 => ?_⟩
    · refine lft y (-9) Y .null (Or.inr ⟨isV_nn y1.1, y2⟩) (Or.inl ⟨rfl, rfl⟩) (fun r w hw => hF r w ?_)
      unfold useE
      cases X with
      | sub D E' => exact absurd kx1 q3
      | _ => exact hw
    · have hP : ∃ D E', X = .sub (.index D) E' := by
        rw [q3] at kx1
        cases X with
        | sub D E' =>
          cases D with
          | index D => exact ⟨D, E', rfl⟩
          | _ => cases hx.1.1
        | add d E => cases kx1
        | div d E => cases kx1
        | rem d E => cases kx1
        | _ => first | (cases kx1) | (cases hx.1.1)
      obtain ⟨D, E', rfl⟩ := hP
      obtain ⟨e', ⟨c0, c1, c2, c3, c4, c5, c6⟩, v1⟩ := hx.2
      obtain ⟨⟨d1, d2⟩, d3, d4, d5⟩ := hx.1.2
      have dl := hX.1.1.lt d1
      have dn := (hN D dl.1 dl.2.1).2.1 (by rw [d2]; decide)
      rw [c5, c2]
      have hF' : ∀ r w, WP B C 1 1 s st ((EV σ most n).1 (σ.2 14 (3 * D)) (upE E' (σ.2 10 D) Y) st) r w → F r w := hF
      have cb := cov_bind hX.1.1 hN (i := 0) d1 (by rw [d2]; decide) (Or.inl d2) d4 (isV_nn y1.1) d3
      rw [show (3 * (D : Int) + 0) = 3 * D by omega] at cb
      have hC := hS.2.2.2.2
      have hst := hS.2.2.1
      refine wp_bind hX hS (by decide) d4 dn v1 ⟨y1.1, y2⟩ (fun w w10 w14 hw => ?_)
      have w10 : w.2 10 = σ.2 10 := w10.trans e10
      have w14 : w.2 14 = σ.2 14 := w14.trans e14
      rw [w10, w14]
      have S2 : WS σ most B C n st 0 (ua w 53 (26 * s.1 54 + σ.2 10 D) y) := by
        exact hS.nx hw ⟨Int.le_refl _, hS.2.2.1.2⟩ ⟨rfl, rfl⟩ (by decide)
      refine ⟨by omega, by omega, by omega, by omega, by omega, by omega, sub_ok hW cb.1 ⟨upE_is 26 _ _ _ d4, VN_up _ _ _ d5 y1.1 y1.2, cb.2⟩ (hw.2.2.2.2 rfl) S2 (by decide) (Nat.le_refl _) (fun r v hv => hF' r v ((hw.tr hv).up (by decide) (by decide)))⟩
  · -- pick
    rw [e9] at q
    obtain ⟨⟨h1, h2, h3⟩, hv⟩ := hE q
    rw [if_neg (by omega), if_neg (by omega), if_pos q] at hF
    refine ⟨by omega, fun q3 => ?_, fun q3 => ?_⟩
    · refine lft (-9) e .null E (Or.inl ⟨rfl, rfl⟩) (Or.inr ⟨fun c => by rw [c] at h1; exact h1.elim, hv⟩) (fun r w hw => hF r w ?_)
      unfold pckE
      cases X with
      | arg m => exact absurd kx1 q3
      | _ => exact hw
    · have hP : ∃ m, X = .arg m := by
        rw [q3] at kx1
        cases X with
        | arg m => exact ⟨m, rfl⟩
        | sub d E => cases kx1
        | add d E => cases kx1
        | div d E => cases kx1
        | rem d E => cases kx1
        | _ => first | (cases kx1) | (cases hx.1.1)
      obtain ⟨m, rfl⟩ := hP
      obtain ⟨c0, c1, c2, c3, c4, c5, c6⟩ := hx.2
      rw [c2, e14]
      have hF' : ∀ r w, WP B C 1 1 s st ((EV σ most n).1 (σ.2 14 (3 * b + if m = 1 then 1 else 2)) E st) r w → F r w := hF
      have hp : pO (σ.2 9 b) = 3 := by rw [q]; rfl
      refine ⟨by omega, fun q4 => ⟨by omega, by omega, ?_⟩, fun q4 => ⟨by omega, by omega, ?_⟩⟩
      · have cp := cov_part hX.1.1 (i := 2) hb (by rw [hp]; decide) (by omega) h3
        rw [if_neg (by omega)] at hF'
        exact sub_ok hW cp.1 ⟨h1, h2, cp.2⟩ hv hS (by decide) (Nat.le_refl _) (fun r v hv => hF' r v (hv.up (by decide) (by decide)))
      · have cp := cov_part hX.1.1 (i := 1) hb (by rw [hp]; decide) (by omega) h3
        rw [if_pos (by omega)] at hF'
        exact sub_ok hW cp.1 ⟨h1, h2, cp.2⟩ hv hS (by decide) (Nat.le_refl _) (fun r v hv => hF' r v (hv.up (by decide) (by decide)))
  · -- a pair
    rw [e9] at q
    obtain ⟨y1, y2⟩ := hy (by omega)
    rw [if_neg (by omega), if_neg (by omega), if_neg (by omega), if_pos q] at hF
    obtain ⟨ky1, ky2, ky3⟩ := VR_kind y1.1 y2
    refine wp_new (V := .add X Y) hX hS (by decide) (fun _ _ _ => by omega) (fun w hw hkp hlo h54 => ?_) (fun w hw => hF _ w (hw.up (by decide) (by decide)))
    refine ⟨x, y, vcel hw hlo ?_, VR_k hx.2 hkp (by omega) (by omega), VR_k y2 hkp (by omega) (by omega)⟩
    rw [kx3, ky3]
    cases hX1 : hsL X <;> cases hY1 : hsL Y <;> simp [hX1, hY1] <;> omega
end
