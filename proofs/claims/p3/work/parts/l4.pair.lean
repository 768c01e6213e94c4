/-! The desk beside the reference, between two calls. -/
/-- the desk's last working -/
def WKD (A : Int → Nat) (c : SC) (s : SM) (V : Term) : Prop := ∃ p q, PLP c p q ∧ ((hasV s → fR c 176 6 ≠ 2 ∧ HLD A c s p V (fR c 176 6) ∧ WO A (YNG c p) c 183 (wrt s V)) ∧ (¬ hasV s → fR c 176 6 = 2)) ∧ (fI c 176 3 = s.1 56 ∧ fI c 176 5 = s.1 60) ∧ (if fI c 176 4 = -1 then -9 else fI c 176 4) = s.1 61
def PAIR (n : Int) (s : SM) (c : SC) : Prop := ∃ A t K Sh V W, MS n s t K Sh V W ∧ DKc A c s t K Sh ∧ WKD A c s V ∧ DLK A c s t W
/-- the room of a call -/
def RQ (c e : SC) : Prop := nxt e + PHI e ≤ nxt c + PHI c + 130 ∧ slo e + 7 * PHI e ≤ slo c + 7 * PHI c + 1200
section
variable {A A' : Int → Nat} {c e : SC} {s s' w v : SM} {t t' : Term} {n : Int} {K K' : List Snap} {Sh : Int → Option Snap} {V : Term} {W : List (Int × Int)} {ey ef : List Nat} {ys : List (Nat × Nat)} {rs : List Nat} {d p q : Nat} {o : List Int × List Term}
theorem RQ.rf : RQ c c := ⟨Nat.le_add_right _ _, Nat.le_add_right _ _⟩
theorem RQ_cx (hX : FIX c) (hx : CX ys rs c e) (h : NPY ys rs) {k m : Nat} (hr : RMk k m c e) (hk : k ≤ 130) (hm : m ≤ 1200) : RQ c e := by
  have h1 := PHI_cx hX hx h
  obtain ⟨r1, r2⟩ := hr
  unfold RQ
  rw [h1]
  omega
theorem RQ_mp (h : RMP c e) : RQ c e := by
  obtain ⟨⟨h1, h2⟩, h3⟩ := h
  exact ⟨by omega, by omega⟩
/-- the hold on the last value over other changes -/
theorem WKD_x (h : WKD A c s V) (hX : FIX c) (hx : CX ys rs c e) (np : NPY ys rs) (h11 : ∀ y, (11, y) ∉ ys) (hw : (fI e 183 1 = fI c 183 1 ∧ fI e 183 3 = fI c 183 3) ∧ aR e 184 = aR c 184 ∧ aI e 185 = aI c 185) (hE : EXT A A' (s.1 8)) (h5 : s'.1 56 = s.1 56 ∧ s'.1 60 = s.1 60 ∧ s'.1 61 = s.1 61) (h9 : ∀ b : Nat, (b : Int) < s.1 8 → s'.2 9 b = s.2 9 b) (h8 : s.1 8 ≤ s'.1 8) : WKD A' e s' V := by
  obtain ⟨p, q, hp, ⟨h1, h2⟩, ⟨h3, h4⟩, h6⟩ := h
  have h353 := hX.2.2.1
  have hk : ky 176 (kl c 176) = 11 := by rw [hX.wk.1]; rfl
  have e6 : fR e 176 6 = fR c 176 6 := hx.r (by omega) (by rw [hk]; exact h11 6)
  have e3 : fI e 176 3 = fI c 176 3 := hx.i (by omega) (by rw [hk]; exact h11 3)
  have e4 : fI e 176 4 = fI c 176 4 := hx.i (by omega) (by rw [hk]; exact h11 4)
  have e5 : fI e 176 5 = fI c 176 5 := hx.i (by omega) (by rw [hk]; exact h11 5)
  have hv : hasV s' ↔ hasV s := by unfold hasV; rw [h5.2.2]
  have hp' : p = 177 ∨ p = 180 := by have := hp.1; omega
  refine ⟨p, q, PLP_cx hX hx np ⟨h11 0, h11 1⟩ hp, ⟨fun z => ?_, fun z => by rw [e6]; exact h2 (fun w => z (hv.mpr w))⟩, ⟨by rw [e3, h5.1]; exact h3, by rw [e5, h5.2.1]; exact h4⟩, by rw [e4, h5.2.2]; exact h6⟩
  obtain ⟨g1, g2, g3⟩ := h1 (hv.mp z)
  have g4 := HLD.kp hX hx np hp' g2
  rw [e6, wrt_cg g2.2.1 h9]
  refine ⟨g1, ⟨g4.1, ⟨g4.2.1.1, VB_up h8 _ V (Nat.lt_succ_self _) g4.2.1.2⟩, DV_EXT hE _ V _ [] (Nat.lt_succ_self _) g4.2.1.2 g4.2.2⟩, ?_⟩
  obtain ⟨⟨o1, o2⟩, ⟨o3, o4⟩, o5⟩ := g3
  refine ⟨⟨by rw [hw.1.2]; exact o1, fun k x hk => by show aI e 185 k = x; rw [hw.2.2]; exact o2 k x hk⟩, ⟨by rw [hw.1.1]; exact o3, o4⟩, fun k X hX' => ?_⟩
  obtain ⟨b, E, e1, e2, e4, e5⟩ := wrt_hb g2.2.1 X (List.mem_of_getElem? hX')
  obtain ⟨d1, d2⟩ := o5 k X hX'
  refine ⟨?_, d2⟩
  show DV A' e (YNG e p) X (aR e 184 k) []
  rw [hw.2.1]
  exact DV_EXT hE _ X _ [] (Nat.lt_succ_self _) (by rw [e1]; exact ⟨e5, e2, e4⟩) (DV_up (sty_cx hX hx np hp') _ X _ [] (Nat.lt_succ_self _) d1)
theorem w183 (hX : FIX c) (hx : CX ys rs c e) (h12 : (12, 1) ∉ ys ∧ (12, 3) ∉ ys) (hr : 184 ∉ rs ∧ 185 ∉ rs) : (fI e 183 1 = fI c 183 1 ∧ fI e 183 3 = fI c 183 3) ∧ aR e 184 = aR c 184 ∧ aI e 185 = aI c 185 := by
  have h353 := hX.2.2.1
  have hk : ky 183 (kl c 183) = 12 := by rw [hX.wt.2.2.2.2.2.2.2.1]; rfl
  exact ⟨⟨hx.i (by omega) (by rw [hk]; exact h12.1), hx.i (by omega) (by rw [hk]; exact h12.2)⟩, hx.ar (by omega) (by unfold rk; rw [if_pos (by omega)]; exact hr.1), hx.ai (by omega) (by unfold rk; rw [if_pos (by omega)]; exact hr.2)⟩
theorem SBX_x (hx : SX ey ef s w) (hy : 0 ∉ ey ∧ 71 ∉ ey) (hf : 1 ∉ ef ∧ 72 ∉ ef) : SBX s w := ⟨⟨hx.1 71 (by decide) hy.2, fun i _ _ => by rw [hx.row (f := 72) (by decide) hf.2 (by decide)]⟩, hx.1 0 (by decide) hy.1, fun f _ _ => by rw [hx.row (f := 1) (by decide) hf.1 (by decide)]⟩
theorem NPY_0 : NPY [] [] := ⟨fun y => ⟨by simp, by simp⟩, ⟨by simp, by simp⟩, by simp, by simp, by simp, by simp⟩
theorem mm (h : MS n s t K Sh V W) : ∀ x, x ∈ fl t → 0 ≤ x ∧ x < s.1 8 := fun x hx => by have := h.1.1.1.lt hx; omega
/-- the reference changed for one call alone -/
theorem DK_sx (hM : MS n s t K Sh V W) (hM' : MS n w t K Sh V W) (hD : DKc A c s t K Sh ∧ WKD A c s V ∧ DLK A c s t W) (hx : SX [] [] s w) : DKc A c w t K Sh ∧ WKD A c w V ∧ DLK A c w t W := by
  obtain ⟨⟨d1, ⟨d2, d3, d4⟩, d5, d6⟩, d7, d8⟩ := hD
  have hT := hM.1.1
  have sb := SBX_x hx (by decide) (by decide)
  have hB := hT.1.2.2.2.2.1
  refine ⟨⟨R1_sx d1 hT.1 hM'.1.1.1 hT.2.1 hM.1.2.1 hx (by decide) (by decide), ⟨d2.sb sb, d3.sb sb, d4⟩, d5, d6⟩, WKD_x (ys := []) (rs := []) d7 d1.1.1 CX.rf NPY_0 (fun y => by simp) ⟨⟨rfl, rfl⟩, rfl, rfl⟩ EXT.rf ⟨hx.1 56 (by decide) (by decide), hx.1 60 (by decide) (by decide), hx.1 61 (by decide) (by decide)⟩ (fun b hb => hx.nod (Or.inl rfl) (by decide) (by omega)) (by rw [hx.1 8 (by decide) (by decide)]; exact Int.le_refl _), DLK_x (ys := []) (rs := []) d8 d1.1.1 d1.1.2.1 CX.rf RMk.rf ⟨fun k => by simp, fun k => by simp, by simp⟩ (mm hM) (hx.1 8 (by decide) (by decide)) (hx.1 35 (by decide) (by decide)) (fun b _ _ => by rw [hx.row (f := 42) (by decide) (by decide) (by decide)])⟩
theorem PAIR_sx (h : PAIR n s c) (hx : SX [] [] s w) : PAIR n w c := by
  obtain ⟨A, t, K, Sh, V, W, hM, hD⟩ := h
  have hM' := MS_x hM hx (by decide) (by decide)
  exact ⟨A, t, K, Sh, V, W, hM', DK_sx hM hM' hD hx⟩
theorem PAIR_up {n' : Int} (h : PAIR n s c) (hn : n ≤ n') : PAIR n' s c := by
  obtain ⟨A, t, K, Sh, V, W, hM, hD⟩ := h
  exact ⟨A, t, K, Sh, V, W, MS_up hM hn, hD⟩
end
