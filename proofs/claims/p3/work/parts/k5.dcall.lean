/-! The desk's calls work and resume (C24, C25). -/
def wqY : List (Nat × Nat) := wzY ++ nqY
def wqR : List Nat := wkR ++ nqR
/-- behind work and resume -/
def WKP (A : Int → Nat) (c e : SC) (σ : SM) (t : Term) (p q : Nat) (R : RS) (r : Nat) : Prop := (CX wqY wqR c e ∧ RMP c e) ∧ (R1 A e σ t ∧ PLP e q p) ∧ (fI e 176 3 = R.1 ∧ fI e 176 5 = R.2.2.1 ∧ fR e 176 6 = r ∧ fI e 176 4 = outE R) ∧ ((R.2.1 = 0 → r ≠ 2 ∧ HLD A e σ q R.2.2.2 r ∧ WO A (YNG e q) e 183 (wrt σ R.2.2.2)) ∧ (R.2.1 ≠ 0 → r = 2)) ∧ fI e 64 15 = 0 ∧ (∀ x, x ∈ fl t → fI e (A x) 11 = (jdg σ t).2.2 x) ∧ ∀ a, a < nxt c → (∀ x, x ∈ fl t → a ≠ A x) → fI e a 11 = fI c a 11
section
variable {iv : List (Int × Int)} {L : Nat} {h0 : MH} {A A' : Int → Nat} {P Q : Nat → Prop} {c c0 e f : SC} {σ s s' : SM} {t : Term} {d p q a g x y r w : Nat} {n b z : Int} {ys : List (Nat × Nat)} {rs : List Nat} {R : RS} {X Y E V : Term} {l : List (Int × Nat)} {o : List Int × List Term}
theorem dlim_c {F : Int → SC → Prop} (h1 : 0 ≤ n ∧ n ≤ 300 → F 1 c) (h2 : ¬ (0 ≤ n ∧ n ≤ 300) → F 0 c) : ck iv L h0 d 42 [vi n] c (qi F) :=
  C42 ⟨fun q => h2 (by omega), fun q => ⟨fun q2 => h2 (by omega), fun q2 => h1 ⟨q, q2⟩⟩⟩
/-- what comes behind the worker -/
theorem wkp_c {F : Int → SC → Prop} (h1 : R1 A c σ t) (hT : SHT σ t) (hw : WZP A c e p q R r) (hR : (R.2.1 = 0 → isV R.2.2.2 = true ∧ VB σ R.2.2.2)) (hF : ∀ f, WKP A c f σ t p q R r → F z f) : ck iv L h0 (d + 6) 53 [vr 64, vi z] e (qi F) := by
  obtain ⟨⟨w1, w2⟩, w3, w4, w5, w6⟩ := hw
  have hX := h1.1.1
  have r1 := h1.x hT w1 (by decide) (by decide) (by decide) (by decide)
  have hXe := r1.1.1
  have rr : r ≠ 2 → R.2.1 = 0 := fun q => Classical.byContradiction fun g => q (w6 g)
  refine note_c (V := R.2.2.2) r1 hT w3 w4.2.2.1 (fun q => ⟨(w5 (rr q)).1, hR (rr q), (w5 (rr q)).2⟩) (fun f x1 m1 r2 p2 v2 e15 th oth => hF f ⟨⟨(w1.up (fun y hy => List.mem_append_left _ hy) (fun y hy => List.mem_append_left _ hy)).tr (x1.up (fun y hy => List.mem_append_right _ hy) (fun y hy => List.mem_append_right _ hy)), w2.tr m1⟩, ⟨r2, p2⟩, ?_, ⟨fun g => ⟨(w5 g).1.1, v2 (w5 g).1.1⟩, w6⟩, e15, th, fun a ha hn => (oth a hn).trans (w1.i ha (by unfold wzY wkY; simp))⟩)
  have h353 := hXe.2.2.1
  have hk : ky 176 (kl e 176) = 11 := by rw [hXe.wk.1]; rfl
  exact ⟨(x1.i (by omega) (by rw [hk]; decide)).trans w4.1, (x1.i (by omega) (by rw [hk]; decide)).trans w4.2.1, (x1.r (by omega) (by rw [hk]; decide)).trans w4.2.2.1, (x1.i (by omega) (by rw [hk]; decide)).trans w4.2.2.2⟩
theorem dwork_no {F : Int → SC → Prop} (hn : ¬ (0 ≤ n ∧ n ≤ 300)) (hF : F (-1) c) : ck iv L h0 (d + 1) 24 [vr 64, vi n] c (qi F) :=
  C24 (dlim_c (fun w => absurd w hn) (fun _ => ⟨fun w => absurd rfl w, fun _ => hF⟩))
theorem dwork_c {F : Int → SC → Prop} (hG : DGR A c σ t) (hp : PLP c p q) (hn : 0 ≤ n ∧ n ≤ 300) (hdd : 210 ≤ d) (hF : ∀ e r, WKP A c e σ t p q ((EV σ n 60).1 (hd t) (nulE 26) 0) r → F (outE ((EV σ n 60).1 (hd t) (nulE 26) 0)) e) : ck iv L h0 d 24 [vr 64, vi n] c (qi F) := by
  obtain ⟨d, rfl⟩ : ∃ k, d = k + 7 := ⟨d - 7, by omega⟩
  have hT := hG.1.2.1
  have hX := hG.1.1.1.1
  obtain ⟨w1, w2, w3, w4, w5, w6, w7, w8, w9⟩ := hX.wt
  have h70 : fR c 70 1 = A (hd t) := hG.1.1.1.2.2.1.2
  have top : hd t ∈ fl t := by
    have := top_mem hT
    rwa [hT.2.2.2.2.2.1]
  have bT : ∀ x, bds σ (hd t) x = -9 := fun x => by
    show bnd (σ.2 9) (σ.2 10) (σ.2 12) (σ.2 13) 70 (hd t) x = -9
    unfold bnd
    rw [if_pos hT.2.2.2.2.2.2.1]
  have cv : cov σ (hd t) (nulE 26) := fun x _ _ hx => absurd (bT x) hx
  have hRO := evw_okw hT hG.1.2.2.1 hG.1.2.2.2 n 60 (hd t) (nulE 26) 0 top (nulE_is 26) (nulE_VG 26) cv hn.1
  refine C24 (dlim_c (fun _ => ⟨fun _ => ⟨w1, by rw [w2]; exact w6, by rw [w3]; exact w7, ?_⟩, fun w => by cases w⟩) (fun w => absurd hn w))
  rw [w2, w3, h70]
  refine workall_c hG hp hn (by omega) (fun e r h => ⟨(hG.1.1.x hT h.1.1 (by decide) (by decide) (by decide) (by decide)).1.1.wt.1, ?_⟩)
  exact wkp_c hG.1.1 hT h (fun g => ⟨(hRO.2.2 g).2.1, VB_g hT _ _ (Nat.lt_succ_self _) (hRO.2.2 g).2.2⟩) (fun f hf => hF f r hf)
theorem dres_no {F : Int → SC → Prop} (hn : ¬ (0 ≤ n ∧ n ≤ 300)) (hF : F (-1) c) : ck iv L h0 (d + 1) 25 [vr 64, vi n] c (qi F) :=
  C25 (dlim_c (fun w => absurd w hn) (fun _ => ⟨fun w => absurd rfl w, fun _ => hF⟩))
theorem dres_4 {F : Int → SC → Prop} (h1 : R1 A c s t) (hT : SHT s t) (hn : 0 ≤ n ∧ n ≤ 300) (h4 : fR c 176 6 = 2 ∨ fI c 64 15 ≠ 0 ∨ thn A c s t ≠ 0) (hF : F (-4) c) : ck iv L h0 (d + 1) 25 [vr 64, vi n] c (qi F) := by
  obtain ⟨w1, w2, w3, w4, w5, w6, w7, w8, w9⟩ := h1.1.1.wt
  refine C25 (dlim_c (fun _ => ⟨fun _ => ⟨w1, by rw [w3]; exact w7, ?_⟩, fun w => by cases w⟩) (fun w => absurd hn w))
  rw [w2, w3]
  refine ⟨fun _ => hF, fun q1 => ⟨fun _ => hF, fun q2 => ⟨w6, then_c h1 hT ⟨fun q3 => ?_, fun _ => hF⟩⟩⟩⟩
  rcases h4 with h | h | h
  · exact absurd h q1
  · exact absurd q2 h
  · exact absurd q3 h
theorem dres_c {F : Int → SC → Prop} (hG : DGR A c σ t) (hp : PLP c p q) (hn : 0 ≤ n ∧ n ≤ 300) (hdd : 210 ≤ d) (hFN : FN σ t) (hL : FLK A c σ t) (h15 : fI c 64 15 = 0) (hth : thn A c σ t = 0) (hr : fR c 176 6 = x ∧ x ≠ 2) (hV : isV V = true ∧ VO σ t V) (hv : DV A c (YNG c p) V x []) (hF : ∀ e r, WKP A c e σ t p q ((EV σ n 60).2 V 0) r → F (outE ((EV σ n 60).2 V 0)) e) : ck iv L h0 d 25 [vr 64, vi n] c (qi F) := by
  obtain ⟨d, rfl⟩ : ∃ k, d = k + 7 := ⟨d - 7, by omega⟩
  have hT := hG.1.2.1
  have hX := hG.1.1.1.1
  obtain ⟨w1, w2, w3, w4, w5, w6, w7, w8, w9⟩ := hX.wt
  have hRO := (evw_ok hT hG.1.2.2.1 hG.1.2.2.2 hFN n 60).2 V 0 hV.1 hV.2 hn.1
  refine C25 (dlim_c (fun _ => ⟨fun _ => ⟨w1, by rw [w3]; exact w7, ?_⟩, fun w => by cases w⟩) (fun w => absurd hn w))
  rw [w2, w3]
  refine ⟨fun w => absurd w (by rw [hr.1]; exact hr.2), fun _ => ⟨fun w => absurd h15 w, fun _ => ⟨w6, then_c hG.1.1 hT ⟨fun _ => ⟨w1, by rw [w3]; exact w7, ?_⟩, fun w => absurd hth w⟩⟩⟩⟩
  rw [w3]
  refine goonall_c hG hp hn (by omega) hFN hL hV (by rw [hr.1]; exact hv) (fun e r h => ⟨(hG.1.1.x hT h.1.1 (by decide) (by decide) (by decide) (by decide)).1.1.wt.1, ?_⟩)
  exact wkp_c hG.1.1 hT h (fun g => ⟨(hRO.2.2 g).2.1, VB_g hT _ _ (Nat.lt_succ_self _) (hRO.2.2 g).2.2⟩) (fun f hf => hF f r hf)
end
