/-! The worker of the desk: work and go on, as wholes (C227, C228). -/
section
variable {iv : List (Int × Int)} {L : Nat} {h0 : MH} {A A' : Int → Nat} {P : Nat → Prop} {c c0 e f : SC} {σ s s' w : SM} {t : Term} {d p q a g x y r : Nat} {n b most st kv ks kv' ks' k0 k1 k : Int} {ys : List (Nat × Nat)} {rs : List Nat} {R : RS} {X Y E V : Term} {l : List (Int × Nat)}
/-- the ground of both -/
def DGR (A : Int → Nat) (c : SC) (σ : SM) (t : Term) : Prop := (R1 A c σ t ∧ SHT σ t ∧ NB σ ∧ RSN σ t) ∧ ∀ b, b ∈ fl t → σ.2 21 b = (jdg σ t).2.2 b ∧ (σ.2 21 b = 1 → σ.2 9 b = 3)
theorem DGR.gr (h : DGR A c σ t) (hx : CX stY [] c e) (hq : q = 177 ∨ q = 180) : DWX A e σ t q := ⟨⟨h.1.1.x h.1.2.1 hx (by decide) (by decide) (by decide) (fun _ _ w => by cases w), h.1.2⟩, hq, h.2⟩
theorem dws0 (hn : 0 ≤ n ∧ n ≤ 300) (hP : PL2 c) (h : fR c 176 0 = q ∧ fR c 176 1 = p ∧ fI c 176 2 = n ∧ fI c 176 3 = 0 ∧ fI c 176 4 = -1 ∧ fI c 176 5 = -9 ∧ fI c q 2 = 0 ∧ fI c q 3 = 0 ∧ r = y) : DWS c q n 0 0 0 c := by
  obtain ⟨h1, h2, h3, h4, h5, h6, h7, h8, -⟩ := h
  exact ⟨CX.rf, hP, ⟨h1, h3, h4, h5, h6⟩, ⟨Int.le_refl _, hn.1, hn.2⟩, by omega, by omega⟩
theorem stwz : ∀ y, y ∈ stY → y ∈ wzY := by decide
theorem wkwz : ∀ y, y ∈ wkY → y ∈ wzY := by decide
/-- from where it starts to where it ends -/
theorem wz_of (hX : FIX c) (hs : CX stY [] c e ∧ RMP c e) {v : SC} (h : WZP A f v p q R r) (hw : CX wkY wkR e f ∧ RMP e f) : WZP A c v p q R r := by
  obtain ⟨⟨a1, a2⟩, a3⟩ := h
  exact ⟨⟨(hs.1.up stwz (fun _ z => by cases z)).tr ((hw.1.up wkwz (fun _ z => z)).tr a1), hs.2.tr (hw.2.tr a2)⟩, a3⟩
theorem pl_of (hX : FIX e) (hpq : (p = 177 ∧ q = 180) ∨ (p = 180 ∧ q = 177)) (h0 : fR e 176 0 = q) (h1 : fR e 176 1 = p) (hx : CX wkY wkR e f) (hP : PL2 f) : PLP f q p := ⟨by omega, by rw [(wk_i hX hx (Or.inl rfl)).2]; exact h0, by rw [(wk_i hX hx (Or.inr (Or.inl rfl))).2]; exact h1, hP⟩
theorem workall_c {F : Int → SC → Prop} (hG : DGR A c σ t) (hp : PLP c p q) (hn : 0 ≤ n ∧ n ≤ 300) (hdd : 200 ≤ d) (hF : ∀ e r, WZP A c e p q ((EV σ n 60).1 (hd t) (nulE 26) 0) r → F (outE ((EV σ n 60).1 (hd t) (nulE 26) 0)) e) : ck iv L h0 d 227 [vr 176, vr (A (hd t)), vi n] c (qi F) := by
  obtain ⟨d, rfl⟩ : ∃ k, d = k + 2 := ⟨d - 2, by omega⟩
  have hX := hG.1.1.1.1
  have hT := hG.1.2.1
  refine C227 ⟨hX.wk.1, start_c hX hp (fun e x1 r1 P1 f1 s1 => ?_)⟩
  have hXe := hX.x x1 (by decide) (by decide)
  have hpq := hp.1
  have hD := hG.gr (q := q) x1 (by omega)
  have hS : DWS e q n 0 0 0 e := dws0 (r := fR e 176 6) (y := fR c 176 6) hn P1 f1
  have top : hd t ∈ fl t := by
    have := top_mem hT
    rwa [hT.2.2.2.2.2.1]
  have bT : ∀ x, bds σ (hd t) x = -9 := fun x => by
    show bnd (σ.2 9) (σ.2 10) (σ.2 12) (σ.2 13) 70 (hd t) x = -9
    unfold bnd
    rw [if_pos hT.2.2.2.2.2.2.1]
  have cv : cov σ (hd t) (nulE 26) := fun x _ _ hx => absurd (bT x) hx
  have hRO := EV_okd (most := n) hD 60 (hd t) (nulE 26) 0 top (nulE_is 26) (nulE_VG 26) cv hn.1
  refine ⟨hXe.wk.1, ck_mono (WCD_all hD 60 (Nat.le_refl _) (hd t) 0 (nulE 26) e 2 [] top (nulE_is 26) (nulE_VG 26) cv rfl (DV_nul 26) hS) (by omega) (fun r f h => ?_)⟩
  have hxf := h.1.1
  have hXf := hXe.x hxf (by decide) (by decide)
  refine ⟨hXf.wk.1, end_c (p := p) (q := q) hXf (pl_of hXe hpq f1.1 f1.2.1 hxf h.2.1.2) ⟨fun g => (hRO.2.2 g).2.1, by have := hRO.2.1; omega⟩ h.2.2.1.1 h.2.2.1.2.1 h.2.2.1.2.2 h.2.2.2.2.1 h.2.2.2.2.2 (fun e' h' => hF e' r (wz_of hX ⟨x1, r1⟩ h' ⟨hxf, h.1.2⟩))⟩
theorem goonall_c {F : Int → SC → Prop} (hG : DGR A c σ t) (hp : PLP c p q) (hn : 0 ≤ n ∧ n ≤ 300) (hdd : 200 ≤ d) (hFN : FN σ t) (hL : FLK A c σ t) (hV : isV V = true ∧ VO σ t V) (hv : DV A c (YNG c p) V (fR c 176 6) []) (hF : ∀ e r, WZP A c e p q ((EV σ n 60).2 V 0) r → F (outE ((EV σ n 60).2 V 0)) e) : ck iv L h0 d 228 [vr 176, vi n] c (qi F) := by
  obtain ⟨d, rfl⟩ : ∃ k, d = k + 2 := ⟨d - 2, by omega⟩
  have hX := hG.1.1.1.1
  have hT := hG.1.2.1
  refine C228 ⟨hX.wk.1, start_c hX hp (fun e x1 r1 P1 f1 s1 => ?_)⟩
  have hXe := hX.x x1 (by decide) (by decide)
  have hpq := hp.1
  have hD := hG.gr (q := q) x1 (by omega)
  have hS : DWS e q n 0 0 0 e := dws0 (r := fR e 176 6) (y := fR c 176 6) hn P1 f1
  have hND := hG.1.1.1.2.1
  have h12 : ∀ b, 0 ≤ b → b < σ.1 8 → fR e (A b) 12 = fR c (A b) 12 := fun b b0 b1 => by
    obtain ⟨⟨m1, -⟩, m9, m10⟩ := hND.2 b b0 b1
    exact x1.r (by omega) (by rw [ky5 m10, m1]; decide)
  have hLe : FLK A e σ t := ⟨fun b b0 b1 h => by rw [h12 b b0 b1]; exact hL.1 b b0 b1 h, hL.2.1, fun b hb => by rw [h12 b (hT.lt hb).1 (hT.lt hb).2.1]; exact hL.2.2 b hb⟩
  have hRO := EV_okO (most := n) hD hFN 60 V 0 hV.1 hV.2 hn.1
  have hve := DV_up s1 _ V _ [] (Nat.lt_succ_self _) hv
  refine ⟨hXe.wk.1, ck_mono (OCD_all hD hFN hLe 60 (Nat.le_refl _) V 0 e _ hV.1 hV.2 hve hS) (by omega) (fun r f h => ?_)⟩
  have hxf := h.1.1
  have hXf := hXe.x hxf (by decide) (by decide)
  refine ⟨hXf.wk.1, end_c (p := p) (q := q) hXf (pl_of hXe hpq f1.1 f1.2.1 hxf h.2.1.2) ⟨fun g => (hRO.2.2 g).2.1, by have := hRO.2.1; omega⟩ h.2.2.1.1 h.2.2.1.2.1 h.2.2.1.2.2 h.2.2.2.2.1 h.2.2.2.2.2 (fun e' h' => hF e' r (wz_of hX ⟨x1, r1⟩ h' ⟨hxf, h.1.2⟩))⟩
end
