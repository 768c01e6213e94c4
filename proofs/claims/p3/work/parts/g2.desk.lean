/-! The desk between calls, as far as works go: what stays over acts. -/
def DKc (A : Int → Nat) (c : SC) (s : SM) (t : Term) (K : List Snap) (Sh : Int → Option Snap) : Prop := R1 A c s t ∧ (BXc A c s ∧ FNc c s ∧ TRc c) ∧ KSc A c K ∧ SHc c Sh
/-- the box and the findings of the reference stay -/
def SBX (s s' : SM) : Prop := (s'.1 71 = s.1 71 ∧ ∀ i, 0 ≤ i → i < 8 → s'.2 72 i = s.2 72 i) ∧ s'.1 0 = s.1 0 ∧ ∀ f, 0 ≤ f → f < 6 → s'.2 1 f = s.2 1 f
section
variable {iv : List (Int × Int)} {L : Nat} {h0 : MH} {A A' : Int → Nat} {c c0 e : SC} {s s' w : SM} {t t' : Term} {d : Nat} {ys : List (Nat × Nat)} {rs : List Nat} {K : List Snap} {Sh : Int → Option Snap}
theorem BXc.sb (h : BXc A c s) (hs : SBX s s') : BXc A c s' := ⟨h.1.trans hs.1.1.symm, fun i i0 i8 => by rw [hs.1.2 i i0 i8]; exact h.2 i i0 i8⟩
theorem FNc.sb (h : FNc c s) (hs : SBX s s') : FNc c s' := ⟨h.1.trans hs.2.1.symm, fun f f0 f6 => by rw [hs.2.2 f f0 f6]; exact h.2 f f0 f6⟩
theorem TRc.x (h : TRc c) (hX : FIX c) (hx : CX ys rs c e) (hy : (25, 1) ∉ ys ∧ (25, 2) ∉ ys ∧ (25, 3) ∉ ys ∧ (25, 5) ∉ ys ∧ (25, 6) ∉ ys) (hr : ∀ a, a ∈ rs → a < 194 ∨ (194 < a ∧ a < 235) ∨ 307 ≤ a) : TRc e := h.up hX hx ⟨hy.1, hy.2.1, hy.2.2.1⟩ hr (fun m i m1 m16 hi => by
  obtain ⟨y1, y2⟩ := tra_in m m16
  have y1 := y1 (by omega)
  have h3 := hX.2.2.1
  have kk : ky (tra m + 2 + 2 * i) (kl c (tra m + 2 + 2 * i)) = 25 := by unfold ky; rw [if_pos (by omega)]
  exact ⟨hx.r (by omega) (by rw [kk]; exact hy.2.2.2.1), hx.i (by omega) (by rw [kk]; exact hy.2.2.2.2)⟩)
/-- the box, the findings, the trials over a change -/
theorem DK_b (h : BXc A c s ∧ FNc c s ∧ TRc c) (hX : FIX c) (hB : BX s) (hE : EXT A A' (s.1 8)) (hs : SBX s s') (hx : CX ys rs c e) (hy : (1, 12) ∉ ys ∧ (1, 14) ∉ ys ∧ (25, 1) ∉ ys ∧ (25, 2) ∉ ys ∧ (25, 3) ∉ ys ∧ (25, 5) ∉ ys ∧ (25, 6) ∉ ys) (hr : ∀ a, a ∈ rs → a < 194 ∨ (198 < a ∧ a < 235) ∨ 307 ≤ a) : BXc A' e s' ∧ FNc e s' ∧ TRc e := by
  obtain ⟨h1, h2, h3⟩ := h
  have n7 : 197 ∉ rs := fun q => by have := hr _ q; omega
  have n8 : 198 ∉ rs := fun q => by have := hr _ q; omega
  exact ⟨((h1.up hB hE).x hX hx hy.1 n7).sb hs, (h2.x hX hx hy.2.1 n8).sb hs, h3.x hX hx hy.2.2 (fun a ha => by have := hr a ha; omega)⟩
theorem acR_in : ∀ a, a ∈ acR → a < 194 ∨ (198 < a ∧ a < 235) ∨ 307 ≤ a := fun a ha => by
  have : acR.all (fun a => decide (a < 194 ∨ (198 < a ∧ a < 235) ∨ 307 ≤ a)) = true := by decide
  exact of_decide_eq_true (List.all_eq_true.mp this a ha)
theorem acR_sh : ∀ a, a ∈ acR → a < 199 ∨ 353 ≤ a := fun a ha => by
  have : acR.all (fun a => decide (a < 199 ∨ 353 ≤ a)) = true := by decide
  exact of_decide_eq_true (List.all_eq_true.mp this a ha)
theorem DKc.act (h : DKc A c s t K Sh) (hB : BX s) (hs : SBX s s') (ha : ACT A c s t K e s' t') : ∃ A', DKc A' e s' t' (push K (t, s)) Sh ∧ EXT A A' (s.1 8) ∧ RMk 10 100 c e ∧ fI e 64 15 = 1 ∧ CX acY acR c e ∧ NWc (nxt c) e := by
  obtain ⟨A', a1, a2, a3, a4, a5, a6, a7⟩ := ha
  obtain ⟨h1, h2, h3, h4⟩ := h
  have hX := h1.1.1
  exact ⟨A', ⟨a1, DK_b h2 hX hB a2 hs a3 (by decide) acR_in, a5, h4.x hX a3 (by decide) acR_sh⟩, a2, a4, a6, a3, a7⟩
theorem shR_in : ∀ a, a ∈ shR → a < 194 ∨ (198 < a ∧ a < 235) ∨ 307 ≤ a := fun a ha => by
  have : shR.all (fun a => decide (a < 194 ∨ (198 < a ∧ a < 235) ∨ 307 ≤ a)) = true := by decide
  exact of_decide_eq_true (List.all_eq_true.mp this a ha)
theorem DKc.und {u : Snap} {K0 : List Snap} (h : DKc A c s t (K0 ++ [u]) Sh) (hB : BX s) (ha : UND A c s e u K0) : DKc A e (unS s u) u.1 K0 Sh := by
  obtain ⟨a1, a2, a3, a4, a5, a6⟩ := ha
  obtain ⟨h1, h2, h3, h4⟩ := h
  have hX := h1.1.1
  have hs : SBX s (unS s u) := ⟨⟨rfl, fun i _ _ => by rw [unS_o (by decide)]⟩, rfl, fun f _ _ => by rw [unS_o (by decide)]⟩
  exact ⟨a1, DK_b h2 hX hB EXT.rf hs a2 (by decide) acR_in, a4, h4.x hX a2 (by decide) acR_sh⟩
theorem DKc.shl {p : Int} {u : Snap} (h : DKc A c s t K Sh) (hS : SHT s t) (hB : BX s) (hKP : ∀ u, u ∈ K → KP s u) (hx : CX shY shR c e) (ha : SHc e (shP Sh p u)) : DKc A e s t K (shP Sh p u) := by
  obtain ⟨h1, h2, h3, h4⟩ := h
  have hX := h1.1.1
  refine ⟨h1.x hS hx (by decide) (by decide) (by decide) (by decide), DK_b h2 hX hB EXT.rf ⟨⟨rfl, fun _ _ _ => rfl⟩, rfl, fun _ _ _ => rfl⟩ hx (by decide) shR_in, h3.x hX EXT.rf hS.2.2.2.2.1.1 hKP hx (by decide) (fun a ha w => ?_), ha⟩
  have h7 := snR_lt a ha
  have : shR.all (fun a => decide (199 ≤ a)) = true := by decide
  have := of_decide_eq_true (List.all_eq_true.mp this a w)
  omega
theorem DKc.fil {u : Snap} (h : DKc A c s t K Sh) (hT : AFT s t) (hB : BX s) (ha : FIL A c s t K u e) : ∃ A' st, DKc A' e (filV s st) (filT s t u) (push K (t, s)) Sh ∧ FBs s u (fl u.1).length st ∧ EXT A A' (s.1 8) ∧ RMk 130 1200 c e ∧ CX unY acR c e ∧ NWc (nxt c) e ∧ fI e 64 15 = fI c 64 15 ∧ fR e (A (s.1 16)) 12 = A' (s.1 8) ∧ ∀ a, a < nxt c → a ≠ A (s.1 16) → kl c a = 5 → fR e a 12 = fR c a 12 := by
  obtain ⟨A', st, a1, a2, a3, a4, a5, a6, a7, a8, a9, a10⟩ := ha
  obtain ⟨h1, h2, h3, h4⟩ := h
  have hX := h1.1.1
  have he := a2.2.1
  have hs : SBX s (filV s st) := by
    refine ⟨⟨(replU_e.1 71 (by decide)).trans (he.1 71 (by decide)), fun i _ _ => by rw [filV_o (by decide), he.2 72 (by decide)]⟩, (replU_e.1 0 (by decide)).trans (he.1 0 (by decide)), fun f _ _ => by rw [filV_o (by decide), he.2 1 (by decide)]⟩
  exact ⟨A', st, ⟨a1, DK_b h2 hX hB a3 hs a4 (by decide) acR_in, a6, h4.x hX a4 (by decide) acR_sh⟩, a2, a3, a5, a4, a7, a8, a9, a10⟩
end
