/-! Working by the desk: an act is done (C239). -/
def WCD (iv : List (Int × Int)) (L : Nat) (h0 : MH) (A : Int → Nat) (c0 : SC) (σ : SM) (t : Term) (p : Nat) (most : Int) (n : Nat) : Prop := ∀ (b st : Int) (E : Term) (c : SC) (g : Nat) (l : List (Int × Nat)), b ∈ fl t → isE 26 E → VN σ t E → cov σ b E → CHN c (YNG c p) g l → DV A c (YNG c p) E 2 l → DWS c0 p most st 0 0 c → ck iv L h0 (3 * n + 10) 234 [vr 176, vr (A b), vr g, vi (60 - (n : Int))] c (qa (DWP A p 0 (-1) 1 c st ((EV σ most n).1 b E st)))
section
variable {iv : List (Int × Int)} {L : Nat} {h0 : MH} {A A' : Int → Nat} {P : Nat → Prop} {c c0 e f : SC} {σ s s' w : SM} {t : Term} {d p a g x y n : Nat} {b most st kv ks kv' ks' k0 k1 k q : Int} {ys : List (Nat × Nat)} {rs : List Nat} {R : RS} {X Y E : Term} {l : List (Int × Nat)}
theorem dwsub_c {F : Nat → SC → Prop} {D : Nat} {z : Int} (hW : WCD iv L h0 A c0 σ t p most n) (hb : b ∈ fl t) (hE : isE 26 E ∧ VN σ t E ∧ cov σ b E) (hg : CHN c (YNG c p) g l ∧ DV A c (YNG c p) E 2 l) (hS : DWS c0 p most st kv ks c) (hk : 0 ≤ kv ∧ 0 ≤ ks) (hD : 3 * n + 10 ≤ D) (hz : z = 60 - n) (hF : ∀ a e, DWP A p 0 (-1) 1 c st ((EV σ most n).1 b E st) a e → F a e) : ck iv L h0 D 234 [vr 176, vr (A b), vr g, vi z] c (qa F) := by
  subst hz
  exact ck_mono (hW b st E c g l hb hE.1 hE.2.1 hE.2.2 hg.1 hg.2 (hS.up hk.1 hk.2)) hD hF
theorem kd_ne {V : Term} (h : isV V = true) : (vkd V = 0 → ∃ z, V = .int z) ∧ (vkd V = 1 → ∃ z, V = .arg z) ∧ (vkd V = 2 → ∃ d E, V = .sub (.index d) E) ∧ (vkd V = 3 → ∃ A B, V = .add A B) := by
  cases V with
  | int z => exact ⟨fun _ => ⟨z, rfl⟩, fun q => (by cases q), fun q => (by cases q), fun q => (by cases q)⟩
  | arg z => exact ⟨fun q => (by cases q), fun _ => ⟨z, rfl⟩, fun q => (by cases q), fun q => (by cases q)⟩
  | sub d E =>
    cases d with
    | index d => exact ⟨fun q => (by cases q), fun q => (by cases q), fun _ => ⟨d, E, rfl⟩, fun q => (by cases q)⟩
    | _ => cases h
  | add x y => exact ⟨fun q => (by cases q), fun q => (by cases q), fun q => (by cases q), fun _ => ⟨x, y, rfl⟩⟩
  | div d E => exact ⟨fun q => (by cases q), fun q => (by cases q), fun q => (by cases q), fun q => (by cases q)⟩
  | index _ => exact ⟨fun q => (by cases q), fun q => (by cases q), fun q => (by cases q), fun q => (by cases q)⟩
  | length _ => exact ⟨fun q => (by cases q), fun q => (by cases q), fun q => (by cases q), fun q => (by cases q)⟩
  | rem d E => exact ⟨fun q => (by cases q), fun q => (by cases q), fun q => (by cases q), fun q => (by cases q)⟩
  | _ => cases h
theorem bool_if {v : Bool} : ((if v = true then (1 : Int) else 0) = 0 → v = false) ∧ ((if v = true then (1 : Int) else 0) ≠ 0 → v = true) := by
  cases v <;> simp
theorem dact_c {z : Int} {F : Nat → SC → Prop} (hD : DWX A c0 σ t p) (hW : WCD iv L h0 A c0 σ t p most n) (hS : DWS c0 p most st kv ks c) (hk : 1 ≤ kv ∧ 1 ≤ ks) (hz : z = 60 - n) (hb : b ∈ fl t) (hso : 4 ≤ σ.2 9 b ∧ σ.2 9 b < 15 ∧ σ.2 9 b ≠ 8 ∧ σ.2 9 b ≠ 10) (hx : (isV X = true ∧ VN σ t X) ∧ DV A c (YNG c p) X x [])
    (hy : (σ.2 9 b = 4 ∨ σ.2 9 b = 5 ∨ σ.2 9 b = 6 ∨ σ.2 9 b = 7 ∨ σ.2 9 b = 9 ∨ σ.2 9 b = 12) → (isV Y = true ∧ VN σ t Y) ∧ DV A c (YNG c p) Y y []) (hy2 : ¬ (σ.2 9 b = 4 ∨ σ.2 9 b = 5 ∨ σ.2 9 b = 6 ∨ σ.2 9 b = 7 ∨ σ.2 9 b = 9 ∨ σ.2 9 b = 12) → y = 2) (hE : σ.2 9 b = 11 → (isE 26 E ∧ VN σ t E ∧ cov σ b E) ∧ CHN c (YNG c p) g l ∧ DV A c (YNG c p) E 2 l) (hF : ∀ a e, DWP A p 1 0 2 c st (actE (σ.2 9) (σ.2 10) (σ.2 14) (EV σ most n).1 b X Y E st) a e → F a e) : ck iv L h0 (3 * n + 11) 239 [vr 176, vr (A b), vr x, vr y, vr g, vi z] c (qa F) := by
  have hcx := hS.1
  have hT := hD.1.2.1
  have hN := hD.1.2.2.1
  have hXc := hD.fx hcx
  obtain ⟨w1, w2, w3⟩ := hD.wk hcx
  obtain ⟨⟨n1, n2, n3, n4, n5⟩, -, ⟨n6, n7, n8⟩, n9⟩ := hD.node hcx hb
  have hp := hS.2.2.1.1
  have hbl := hT.lt hb
  have hk0 : 0 ≤ kv := by omega
  obtain ⟨⟨x0, x1⟩, x2, x3⟩ := DV_kind hx.1.1 hx.2
  obtain ⟨kd0, kd1, kd2, kd3⟩ := kd_ne hx.1.1
  have e10 : ∃ D, 3 * n + 10 = D + 2 := ⟨3 * n + 8, by omega⟩
  -- what is left
  have lft : ∀ (Y' E' : Term) (y' g' : Nat) (l' : List (Int × Nat)), isW X = true → ((Y' = .null ∧ y' = 2) ∨ (isV Y' = true ∧ DV A c (YNG c p) Y' y' [])) → ((E' = .null ∧ g' = 2) ∨ (E' ≠ .null ∧ CHN c (YNG c p) g' l' ∧ DV A c (YNG c p) E' 2 l')) → (∀ a e, DWP A p 1 0 2 c st (lftE b X Y' E' st) a e → F a e) → ck iv L h0 (3 * n + 10) 200 [vr p, vr (A b), vr x, vr y', vr g'] c (qa fun r s => F r s) := fun Y' E' y' g' l' q hy' hg' hG => by
    unfold lftE at hG
    rw [if_pos q] at hG
    exact drem_c (l := l') hD hS hk0 hbl.1 hx.2 hy' hg' (fun a e h => hG a e (h.up (by decide) (by decide) (by decide)))
  have stp : (∀ a e, DWP A p 1 0 2 c st (rst st 3 b) a e → F a e) → ck iv L h0 (3 * n + 10) 232 [vr 176, vi 3, vi b] c (qa fun r s => F r s) := fun hG => dstop_c hD hS (by decide) (fun e h => hG 2 e (h.up (by decide) (by decide) (by decide)))
  unfold actE at hF
  refine C239 ⟨x1, isleft_c hx.1.1 hx.2 ⟨n1, ?_⟩⟩
  rw [n2, n3, hp]
  obtain ⟨bi1, bi2⟩ := @bool_if (isW X)
  -- with one value alone
  have one : ∀ (Y' E' : Term), (¬ isW X = true → lftE b X Y' E' st = rst st 3 b) := fun Y' E' q => by unfold lftE; rw [if_neg q]
  refine ⟨fun q => ?_, fun q => ?_, fun q => ?_, fun q => ?_, fun q => ?_⟩
  · -- use
    rw [if_neg (by omega), if_pos q] at hF
    obtain ⟨y1, y2⟩ := hy (by omega)
    refine ⟨x1, fun q2 => ⟨fun r => ⟨w1, ?_⟩, fun r => ⟨w1, fun _ => ⟨w2, ?_⟩, fun q3 => by omega⟩⟩, fun q2 => ?_⟩
    · refine stp (fun a e h => hF a e ?_)
      rw [← one Y .null (by rw [bi1 r]; decide)] at h
      unfold useE
      cases X with
      | sub D E' => exact absurd x2 q2
      | _ => exact h
    · refine lft Y .null y 2 l (bi2 r) (Or.inr ⟨y1.1, y2⟩) (Or.inl ⟨rfl, rfl⟩) (fun a e h => hF a e ?_)
      unfold useE
      cases X with
      | sub D E' => exact absurd x2 q2
      | _ => exact h
    · obtain ⟨D, E', rfl⟩ := kd2 (by rw [← x2]; exact q2)
      obtain ⟨c1, c2, c3, l', c4, c5⟩ := hx.2
      obtain ⟨⟨d1, d2⟩, d3, d4, d5⟩ := hx.1.2
      obtain ⟨⟨m1, m2, m3, m4, m5⟩, -, ⟨m6, m7, m8⟩, m9⟩ := hD.node hcx d1
      have dl := hT.lt d1
      have hF' : ∀ a e, DWP A p 1 0 2 c st ((EV σ most n).1 (σ.2 14 (3 * D)) (upE E' (σ.2 10 D) Y) st) a e → F a e := hF
      have cb := cov_bind hT hN (i := 0) d1 (by rw [d2]; decide) (Or.inl d2) d4 (isV_nn y1.1) d3
      rw [show (3 * (D : Int) + 0) = 3 * D by omega] at cb
      have m9' := m9 0 (by decide) (by rw [d2]; decide)
      rw [show (3 * (D : Int) + 0) = 3 * D by omega] at m9'
      have hp1 : pO (σ.2 9 D) = 1 := by rw [d2]; rfl
      rw [c2, m6, m7, m8, m4, m9', hp1]
      refine ⟨m1, rfl, ⟨by decide, by decide⟩, w1, w2, ?_⟩
      have e10' : ∃ D, 3 * n + 10 = D + 1 := ⟨3 * n + 9, by omega⟩
      obtain ⟨D1, hD1⟩ := e10'
      rw [hD1]
      refine bind_c hXc hD.2.1 (hS.sg (by omega)).1 (hS.sg (by omega)).2 (fun e2 a2 hw => ?_)
      obtain ⟨b1, b2, b3⟩ := dw_bind hD hS d4 ⟨c4, c5⟩ ⟨y1.1, y2⟩ (DV_ne y1.1 y2) hw
      have S2 := hS.nx hXc b1 ⟨Int.le_refl _, hS.2.2.2.1.2.1⟩ ⟨rfl, rfl⟩
      refine ⟨(hD.wk S2.1).1, dwsub_c hW cb.1 ⟨upE_is 26 _ _ _ d4, VN_up _ _ _ d5 y1.1 y1.2, cb.2⟩ ⟨b2, b3⟩ S2 ⟨by omega, by omega⟩ (by omega) hz (fun a e h => hF' a e ((b1.tr rfl h).up (by decide) (by decide) (by decide)))⟩
  · -- wholes
    have q4 : σ.2 9 b = 4 ∨ σ.2 9 b = 5 ∨ σ.2 9 b = 6 ∨ σ.2 9 b = 7 := by
      clear hy hy2 hE
      omega
    obtain ⟨y1, y2⟩ := hy (by omega)
    rw [if_pos q4] at hF
    obtain ⟨⟨y0, yk⟩, y3, y4⟩ := DV_kind y1.1 y2
    have yn := DV_ne y1.1 y2
    obtain ⟨bj1, bj2⟩ := @bool_if (isW Y)
    have l2 : (isW X || isW Y) = true → ck iv L h0 (3 * n + 10) 200 [vr p, vr (A b), vr x, vr y, vr 2] c (qa fun r s => F r s) := fun q => by
      unfold rckE at hF
      rw [if_pos q] at hF
      exact drem_c (E := .null) (l := l) hD hS hk0 hbl.1 hx.2 (Or.inr ⟨y1.1, y2⟩) (Or.inl ⟨rfl, rfl⟩) (fun a e h => hF a e (h.up (by decide) (by decide) (by decide)))
    have s2 : isW X = false → isW Y = false → (∀ m n, ¬ (X = .int m ∧ Y = .int n)) → ck iv L h0 (3 * n + 10) 232 [vr 176, vi 3, vi b] c (qa fun r s => F r s) := fun h1 h2 h3 => stp (fun a e h => hF a e (by
      unfold rckE
      rw [h1, h2, if_neg (by decide)]
      split
      · exact absurd ⟨rfl, rfl⟩ (h3 _ _)
      · exact h))
    refine ⟨fun w => absurd w yn, fun _ => ⟨x1, fun q5 => ⟨fun r => ⟨w1, fun _ => ⟨w2, l2 (by rw [bi2 r]; rfl)⟩, fun q6 => by omega⟩, fun r => ⟨fun w => absurd w yn, fun _ => ⟨yk, isleft_c y1.1 y2 ⟨fun r2 => ⟨n1, w1, ?_⟩, fun r2 => ⟨w1, n1, ?_⟩⟩⟩⟩⟩, fun q5 => ⟨yk, fun q6 => ⟨fun r => ⟨w1, fun _ => ⟨w2, l2 (by rw [bi2 r]; rfl)⟩, fun q6 => by omega⟩, fun r => ⟨fun w => absurd w yn, fun _ => isleft_c y1.1 y2 ⟨fun r2 => ⟨n1, w1, ?_⟩, fun r2 => ⟨w1, n1, ?_⟩⟩⟩⟩, fun q6 => ⟨w1, ?_⟩⟩⟩⟩
    · rw [n2]
      exact s2 (bi1 r) (bj1 r2) (fun m n h => q5 (by rw [x2, h.1]; rfl))
    · rw [n3, hp]
      exact ⟨fun _ => ⟨w2, l2 (by rw [bj2 r2]; simp)⟩, fun q7 => by omega⟩
    · rw [n2]
      exact s2 (bi1 r) (bj1 r2) (fun m n h => q6 (by rw [y3, h.2]; rfl))
    · rw [n3, hp]
      exact ⟨fun _ => ⟨w2, l2 (by rw [bj2 r2]; simp)⟩, fun q7 => by omega⟩
    · obtain ⟨m1, rfl⟩ := kd0 (by rw [← x2]; exact q5)
      obtain ⟨m2, rfl⟩ := (kd_ne y1.1).1 (by rw [← y3]; exact q6)
      have v1 : fI c x 1 = m1.toInt := hx.2.2.1
      have v2 : fI c y 1 = m2.toInt := y2.2.1
      rw [v1, v2]
      have e10' : ∃ D, 3 * n + 10 = D + 3 := ⟨3 * n + 7, by omega⟩
      obtain ⟨D1, hD1⟩ := e10'
      rw [hD1]
      exact dreck_c hD hS hk0 hb q4 (fun a e h => hF a e (h.up (by decide) (by decide) (by decide)))
  · -- pick
    rw [if_neg (by omega), if_neg (by omega), if_pos q] at hF
    obtain ⟨⟨h1, h2, h3⟩, hg, hv⟩ := hE q
    have y2 := hy2 (by omega)
    subst y2
    refine ⟨x1, fun q2 => ⟨fun r => ⟨w1, ?_⟩, fun r => ⟨w1, fun q3 => by omega, fun _ => ⟨w2, ?_⟩⟩⟩, fun q2 => ?_⟩
    · refine stp (fun a e h => hF a e ?_)
      rw [← one .null E (by rw [bi1 r]; decide)] at h
      unfold pckE
      cases X with
      | arg m => exact absurd x2 q2
      | _ => exact h
    · refine lft .null E 2 g l (bi2 r) (Or.inl ⟨rfl, rfl⟩) (Or.inr ⟨fun w => by rw [w] at h1; exact h1.elim, hg, hv⟩) (fun a e h => hF a e ?_)
      unfold pckE
      cases X with
      | arg m => exact absurd x2 q2
      | _ => exact h
    · obtain ⟨m, rfl⟩ := kd1 (by rw [← x2]; exact q2)
      obtain ⟨c1, c2, c3⟩ := hx.2
      have hp3 : pO (σ.2 9 b) = 3 := by rw [q]; rfl
      rw [c2, n6, n7, n8, hp3, n9 2 (by decide) (by rw [hp3]; decide), n9 1 (by decide) (by rw [hp3]; decide)]
      have hF' : ∀ a e, DWP A p 1 0 2 c st ((EV σ most n).1 (σ.2 14 (3 * b + if m = 1 then 1 else 2)) E st) a e → F a e := hF
      refine ⟨fun q3 => ⟨rfl, ⟨by decide, by decide⟩, w1, ?_⟩, fun q3 => ⟨rfl, ⟨by decide, by decide⟩, w1, ?_⟩⟩
      · have cp := cov_part hT (i := 2) hb (by rw [hp3]; decide) (by omega) h3
        rw [if_neg (by omega)] at hF'
        exact dwsub_c hW cp.1 ⟨h1, h2, cp.2⟩ ⟨hg, hv⟩ hS ⟨by omega, by omega⟩ (Nat.le_refl _) hz (fun a e h => hF' a e (h.up (by decide) (by decide) (by decide)))
      · have cp := cov_part hT (i := 1) hb (by rw [hp3]; decide) (by omega) h3
        rw [if_pos (by omega)] at hF'
        exact dwsub_c hW cp.1 ⟨h1, h2, cp.2⟩ ⟨hg, hv⟩ hS ⟨by omega, by omega⟩ (Nat.le_refl _) hz (fun a e h => hF' a e (h.up (by decide) (by decide) (by decide)))
  · -- a pair
    rw [if_neg (by omega), if_neg (by omega), if_neg (by omega), if_pos q] at hF
    obtain ⟨y1, y2⟩ := hy (by omega)
    refine ⟨fun _ => ⟨w1, w2, ?_⟩, fun w => absurd w (DV_ne y1.1 y2)⟩
    exact dadd_c hD hS hk0 hx.1.1 y1.1 hx.2 y2 (fun a e h => hF a e (h.up (by decide) (by decide) (by decide)))
  · -- first, second
    rw [if_neg (by omega), if_neg (by omega), if_neg (by omega), if_neg (by omega)] at hF
    have y2 := hy2 (by omega)
    subst y2
    refine ⟨x1, fun q2 => ⟨fun r => ⟨w1, ?_⟩, fun r => ⟨w1, fun _ => ⟨w2, ?_⟩, fun q3 => by omega⟩⟩, fun q2 => ?_⟩
    · refine stp (fun a e h => hF a e ?_)
      rw [← one .null .null (by rw [bi1 r]; decide)] at h
      unfold hlfE
      cases X with
      | add A A' => exact absurd x2 q2
      | _ => exact h
    · refine lft .null .null 2 2 l (bi2 r) (Or.inl ⟨rfl, rfl⟩) (Or.inl ⟨rfl, rfl⟩) (fun a e h => hF a e ?_)
      unfold hlfE
      cases X with
      | add A A' => exact absurd x2 q2
      | _ => exact h
    · obtain ⟨B, B', rfl⟩ := kd3 (by rw [← x2]; exact q2)
      obtain ⟨c1, c2, c3, c4⟩ := hx.2
      have wp : ∀ V v, DV A c (YNG c p) V v [] → DWP A p 1 0 2 c st (rok st V) v c := fun V v hv =>
        ⟨⟨CX.rf, RMP.rf⟩, ⟨⟨STY.rf, STY.rf⟩, hS.2.1⟩, ⟨hS.2.2.1.2.2.1, hS.2.2.1.2.2.2.1, hS.2.2.1.2.2.2.2⟩, ⟨by show fI c p 2 ≤ fI c p 2 + 2 * (st - st) + 1; omega, by show fI c p 3 ≤ fI c p 3 + (st - st) + 0; omega⟩, fun _ => hv, fun w => absurd rfl w⟩
      refine ⟨fun q4 => hF _ c ?_, fun q4 => hF _ c ?_⟩
      · show DWP A p 1 0 2 c st (rok st (if σ.2 9 b = 13 then B else B')) _ c
        rw [if_neg q4]
        exact wp B' _ c4
      · show DWP A p 1 0 2 c st (rok st (if σ.2 9 b = 13 then B else B')) _ c
        rw [if_pos q4]
        exact wp B _ c3
end
