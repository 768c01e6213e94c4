/-! offers() and offer() by the desk. -/
section
variable {iv : List (Int × Int)} {L : Nat} {h0 : MH} {A A' : Int → Nat} {c c0 e : SC} {s s' w : SM} {t : Term} {d : Nat} {ys : List (Nat × Nat)} {rs : List Nat}
theorem FIX.of (h : FIX c) : kl c 64 = 1 ∧ fR c 64 1 = 70 ∧ kl c 70 = 8 ∧ (fR c 64 2 = 175 ∧ kl c 175 = 3) ∧ (fR c 64 7 = 194 ∧ kl c 194 = 103 ∧ le c 194 = 16) ∧ (fR c 64 8 = 195 ∧ kl c 195 = 100 ∧ le c 195 = 42) ∧ fR c 64 9 = 196 ∧ kl c 196 = 100 ∧ le c 196 = 42 := by
  simp only [h.1]
  exact ⟨trivial, trivial, trivial, ⟨trivial, trivial⟩, ⟨trivial, trivial, trivial⟩, ⟨trivial, trivial, trivial⟩, trivial, trivial, trivial⟩
theorem OFI.nm {z : Int} (h : OFI A c0 c s t) (hS : SHT s t) (hK : KIs s) : OFI A c0 (uI c (tra 3) 4 z) s t := by
  obtain ⟨h1, hT, hx, hr⟩ := h
  have e3 : 235 ≤ tra 3 ∧ tra 3 < 307 := by decide
  have hx1 : CX trY trR c (uI c (tra 3) 4 z) := CX.rf.uI (fun _ => by unfold ky; rw [if_pos e3]; decide)
  refine ⟨R1_tr h1 hS hK hx1 (fun x _ => ?_) ?_ ?_ (fun k _ => ⟨rfl, rfl, rfl, rfl⟩), hT.up h1.1.1 hx1 (by decide) (by decide) (fun m i m1 m16 hi => ?_), hx.tr hx1, hr⟩
  · rw [fI_uI, if_neg (by omega), fI_uI, if_neg (by omega), fI_uI, if_neg (by omega)]; exact ⟨rfl, rfl, rfl⟩
  · rw [fI_uI, if_neg (by omega)]
  · rw [fI_uI, if_neg (by omega)]
  · rw [fR_uI, fI_uI, if_neg (by omega)]; exact ⟨rfl, rfl⟩
theorem OFI.row {a : Nat} {i z : Int} (h : OFI A c0 c s t) (hS : SHT s t) (hK : KIs s) (ha : a = 195 ∨ a = 196) : OFI A c0 (uA c a i z) s t := by
  obtain ⟨h1, hT, hx, hr⟩ := h
  have hx1 : CX trY trR c (uA c a i z) := CX.rf.uA (fun _ => by unfold rk; rw [if_pos (by omega)]; rcases ha with rfl | rfl <;> decide)
  refine ⟨R1_tr h1 hS hK hx1 (fun x _ => ⟨rfl, rfl, rfl⟩) rfl rfl (fun k _ => ?_), hT.up h1.1.1 hx1 (by decide) (by decide) (fun m i m1 m16 hi => ⟨rfl, rfl⟩), hx.tr hx1, hr⟩
  rw [aI_uA, if_neg (by omega), aI_uA, if_neg (by omega), aI_uA, if_neg (by omega), aI_uA, if_neg (by omega)]
  exact ⟨rfl, rfl, rfl, rfl⟩
theorem offer_c {n : Nat} {a1 a3 : Int} {F : Int → SC → Prop} (h : OFI A c0 c s t) (hT : AFT s t) (hK : KIs s) (hn : 1 ≤ n ∧ n < 16) (ha : 0 ≤ a1 ∧ a1 < 42) (hD : 83 ≤ d) (hF : ∀ r e, (r = a1 ∨ r = a1 + 1) → OFI A c0 e s t → F r e) : ck iv L h0 d 58 [vr 64, vi a1, vi n, vi a3] c (qi F) := by
  obtain ⟨d, rfl⟩ : ∃ k, d = k + 1 := ⟨d - 1, by omega⟩
  have h1 := h.1
  have hcur := h1.2.1.1
  obtain ⟨k1, k2, k3, ⟨k4, k5⟩, ⟨k6, k7, k8⟩, -⟩ := h1.1.1.of
  have ht := (h.2.1 n hn.1 hn.2).1.1
  refine C58 ?_
  rw [k2, k4, k6, ht, hcur]
  refine ⟨k1, k7, by rw [k8]; omega, k3, k5, trial_c h hT hK hn (by omega) (fun r e hr he => ⟨fun q => ?_, fun q => hF _ e (Or.inl rfl) he⟩)⟩
  obtain ⟨-, -, -, -, -, ⟨j1, j2, j3⟩, j4, j5, j6⟩ := he.1.1.1.of
  have jk : kl e 64 = 1 := he.1.1.1.dk.1
  rw [j1, j2, j3, j4, j5, j6]
  exact ⟨jk, rfl, by omega, rfl, by omega, by omega, hF _ _ (Or.inr rfl) ((he.row hT.1 hK (Or.inl rfl)).row hT.1 hK (Or.inr rfl))⟩
theorem found_c {F : Int → SC → Prop} (h1 : R1 A c s t) (hTR : TRc c) (hT : AFT s t) (hK : KIs s) (hD : 100 ≤ d) (hF : ∀ r e, (0 ≤ r ∧ r < 42) → OFI A c e s t → F r e) : ck iv L h0 d 57 [vr 64] c (qi F) := by
  obtain ⟨d, rfl⟩ : ∃ k, d = k + 1 := ⟨d - 1, by omega⟩
  have hS := hT.1
  have hc := hT.2.2
  obtain ⟨k1, k2, k3, -⟩ := h1.1.1.of
  have two : ∀ (m : Nat) (f : SC) (x z : Int), OFI A c f s t → 1 ≤ x → x + m = 16 → 0 ≤ z → z ≤ 25 + x → wk iv L h0 (d + 1) 57 55 [lr 64, ln, li z, li x] [] f (qi F) := by
    intro m
    induction m with
    | zero =>
      intro f x z hf x1 xm z0 z1
      exact C57_55 ⟨fun _ => hF z f (by omega) hf, fun q => by omega⟩
    | succ m ih =>
      intro f x z hf x1 xm z0 z1
      refine C57_55 ⟨fun q => by omega, fun _ => ⟨fun q => ⟨by omega, ih f (x + 1) z hf (by omega) (by omega) z0 (by omega)⟩, fun q => ⟨hf.1.1.1.dk.1, ?_⟩⟩⟩
      obtain ⟨n, rfl⟩ : ∃ n : Nat, x = n := ⟨x.toNat, by omega⟩
      exact offer_c hf hT hK ⟨by omega, by omega⟩ ⟨z0, by omega⟩ (by omega) (fun r e hr he => ⟨by omega, ih e _ r he (by omega) (by omega) (by omega) (by omega)⟩)
  have one : ∀ (m : Nat) (f : SC) (x z : Int), OFI A c f s t → 0 ≤ x → x + m = 26 → 0 ≤ z → z ≤ x → wk iv L h0 (d + 1) 57 12 [lr 64, lr (A (s.1 16)), li z, li x] [] f (qi F) := by
    intro m
    induction m with
    | zero =>
      intro f x z hf x0 xm z0 z1
      exact C57_12 ⟨fun _ => two 15 f 1 z hf (by decide) (by decide) z0 (by omega), fun q => by omega⟩
    | succ m ih =>
      intro f x z hf x0 xm z0 z1
      have hJ := js_of hf.1.1.1 hf.1.1.2.1 hf.1.1.2.2.1 hS
      have h9 : A (-9) = 2 := hJ.1.1
      have bin : ∀ G : Nat → SC → Prop, (∀ a, G a f) → ck iv L h0 d 56 [vr (A (s.1 16)), vi x, vr 2, vi (-9)] f (qa G) := fun G hG => by
        have := nb_ok (iv := iv) (L := L) (h0 := h0) (d := d) (nu := s.2 10) (q := -9) (z := -9) (F := G) hJ (Or.inl rfl) (fun y hy => by
          have := hS.m y hy
          rw [if_neg (by omega)]) hc (DP_up 61 70 _ (by decide) (DP_tree hS _ hc)) (x := x) (hG _)
        rw [h9] at this
        exact this
      refine C57_12 ⟨fun q => by omega, fun _ => bin _ (fun a => ⟨fun _ => ⟨by omega, ih f (x + 1) z hf (by omega) (by omega) z0 (by omega)⟩, fun _ => ?_⟩)⟩
      obtain ⟨j1, -, -, -, ⟨j6, j7, j8⟩, -⟩ := hf.1.1.1.of
      obtain ⟨⟨r1, r2, -⟩, -⟩ := hf.2.1 3 (by decide) (by decide)
      have r1 : aR f 194 3 = tra 3 := r1
      rw [j6, j7, j8, r1]
      refine ⟨j1, rfl, by decide, r2, offer_c (n := 3) (hf.nm hS hK) hT hK (by decide) ⟨z0, by omega⟩ (by omega) (fun r e hr he => ⟨by omega, ih e _ r he (by omega) (by omega) (by omega) (by omega)⟩)⟩
  refine C57 ⟨k1, by rw [k2]; exact k3, ?_⟩
  rw [k2, h1.2.1.1]
  exact one 26 c 0 0 ⟨h1, hTR, CX.rf, RMk.rf⟩ (by decide) (by decide) (by decide) (by decide)
theorem offers_c {F : Int → SC → Prop} (h1 : R1 A c s t) (hTR : TRc c) (hT : AFT s t) (hK : KIs s) (hD : 101 ≤ d) (hF : ∀ r e, OFI A c e s t → F r e) : ck iv L h0 d 22 [vr 64] c (qi F) := by
  obtain ⟨d, rfl⟩ : ∃ k, d = k + 1 := ⟨d - 1, by omega⟩
  obtain ⟨⟨d1, d2, d3, d4, d5⟩, e1, e2, -⟩ := h1.cur hT
  refine C22 ?_
  rw [d3, e1]
  exact ⟨d1, d2, e2, fun _ => hF _ c ⟨h1, hTR, CX.rf, RMk.rf⟩, fun _ => found_c h1 hTR hT hK (by omega) (fun r e _ he => hF r e he)⟩
theorem offer2_c {i k : Int} {F : Int → SC → Prop} (h1 : R1 A c s t) (hTR : TRc c) (hT : AFT s t) (hK : KIs s) (hD : 101 ≤ d) (hF : ∀ r e, OFI A c e s t → F r e) : ck iv L h0 d 23 [vr 64, vi i, vi k] c (qi F) := by
  obtain ⟨d, rfl⟩ : ∃ k, d = k + 1 := ⟨d - 1, by omega⟩
  obtain ⟨⟨d1, d2, d3, d4, d5⟩, e1, e2, -⟩ := h1.cur hT
  have h0' : OFI A c c s t := ⟨h1, hTR, CX.rf, RMk.rf⟩
  have fin : ∀ r e, (0 ≤ r ∧ r < 42) → OFI A c e s t → ((i < 0 → F (-9) e) ∧ (0 ≤ i → ((i < r → ((k ≠ 0 → (kl e 64 = 1) ∧ (kl e (fR e 64 9) = 100) ∧ (0 ≤ i ∧ i < le e (fR e 64 9)) ∧ F (aI e (fR e 64 9) i) e) ∧ (k = 0 → (kl e 64 = 1) ∧ (kl e (fR e 64 8) = 100) ∧ (0 ≤ i ∧ i < le e (fR e 64 8)) ∧ F (aI e (fR e 64 8) i) e))) ∧ (r ≤ i → F (-9) e)))) := fun r e hr he => by
    obtain ⟨j1, -, -, -, -, ⟨j2, j3, j4⟩, j5, j6, j7⟩ := he.1.1.1.of
    rw [j2, j3, j4, j5, j6, j7]
    exact ⟨fun _ => hF _ e he, fun _ => ⟨fun _ => ⟨fun _ => ⟨j1, rfl, by omega, hF _ e he⟩, fun _ => ⟨j1, rfl, by omega, hF _ e he⟩⟩, fun _ => hF _ e he⟩⟩
  refine C23 ⟨fun q => ?_, fun q => ⟨fun q1 => ?_, fun _ => hF _ c h0'⟩⟩
  · rw [d3, e1]
    exact ⟨d1, d2, e2, fun _ => found_c h1 hTR hT hK (by omega) fin, fun _ => hF _ c h0'⟩
  · rw [d3, e1]
    exact ⟨d1, d2, e2, fun _ => found_c h1 hTR hT hK (by omega) fin, fun _ => hF _ c h0'⟩
end
