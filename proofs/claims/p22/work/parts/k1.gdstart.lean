section
/-! The worker of the desk: where it starts, where it ends (C230, C231, C227, C228). -/
def stY : List (Nat × Nat) := [(6, 2), (6, 3), (11, 0), (11, 1), (11, 2), (11, 3), (11, 4), (11, 5)]
def wzY : List (Nat × Nat) := (11, 0) :: (11, 1) :: (11, 2) :: (11, 6) :: wkY
/-- the pools: the one in use, the other -/
def PLP (c : SC) (p q : Nat) : Prop := ((p = 177 ∧ q = 180) ∨ (p = 180 ∧ q = 177)) ∧ fR c 176 0 = p ∧ fR c 176 1 = q ∧ PL2 c
/-- behind a working -/
def WZP (A : Int → Nat) (c e : SC) (p q : Nat) (R : RS) (r : Nat) : Prop := (CX wzY wkR c e ∧ RMP c e) ∧ PLP e q p ∧ (fI e 176 3 = R.1 ∧ fI e 176 5 = R.2.2.1 ∧ fR e 176 6 = r ∧ fI e 176 4 = outE R) ∧ (R.2.1 = 0 → (r ≠ 2 ∧ kl e r = 10) ∧ DV A e (YNG e q) R.2.2.2 r []) ∧ (R.2.1 ≠ 0 → r = 2)
theorem DV_nul {A : Int → Nat} {c : SC} {P : Nat → Prop} : ∀ n : Nat, DV A c P (nulE n) 2 [] := by
  intro n
  induction n with
  | zero => exact trivial
  | succ n ih => exact ⟨ih, ⟨fun _ => rfl, fun _ => rfl⟩, fun w => absurd rfl w⟩
section
variable {iv : List (Int × Int)} {L : Nat} {h0 : MH} {A A' : Int → Nat} {P : Nat → Prop} {c c0 e f : SC} {σ s s' w : SM} {t : Term} {d p q a g x y r : Nat} {n b most st kv ks kv' ks' k0 k1 k : Int} {ys : List (Nat × Nat)} {rs : List Nat} {R : RS} {X Y E V : Term} {l : List (Int × Nat)}
theorem start_c {F : SC → Prop} (hX : FIX c) (hp : PLP c p q) (hF : ∀ e, CX stY [] c e → RMP c e → PL2 e → (fR e 176 0 = q ∧ fR e 176 1 = p ∧ fI e 176 2 = n ∧ fI e 176 3 = 0 ∧ fI e 176 4 = -1 ∧ fI e 176 5 = -9 ∧ fI e q 2 = 0 ∧ fI e q 3 = 0 ∧ fR e 176 6 = fR c 176 6) → STY (YNG c p) (LIV e q) c e → F e) : ck iv L h0 (d + 1) 230 [vr 176, vi n] c (qv F) := by
  obtain ⟨hpq, h1, h2, hP⟩ := hp
  obtain ⟨k1, k2, k3⟩ := hX.wk
  have h353 := hX.2.2.1
  have kq : kl c q = 6 := by rcases hpq with ⟨-, e⟩ | ⟨-, e⟩ <;> rw [e] <;> assumption
  have q176 : q ≠ 176 := by omega
  refine C230 ⟨k1, ?_⟩
  rw [fR_uR, if_pos ⟨rfl, rfl⟩, h1, h2]
  refine ⟨kq, C194 ⟨kq, k1, ?_⟩⟩
  generalize he : uI (uI (uI (uI (uI (uI (uR (uR c 176 0 q) 176 1 p) q 2 0) q 3 0) 176 2 n) 176 3 0) 176 4 (-1)) 176 5 (-9) = e
  have eI : ∀ u y, fI e u y = if y = 5 ∧ u = 176 then -9 else if y = 4 ∧ u = 176 then -1 else if y = 3 ∧ u = 176 then 0 else if y = 2 ∧ u = 176 then n else if y = 3 ∧ u = q then 0 else if y = 2 ∧ u = q then 0 else fI c u y := fun u y => by
    rw [← he]; simp only [fI_uI, fI_uR]
  have eR : ∀ u y, fR e u y = if y = 1 ∧ u = 176 then p else if y = 0 ∧ u = 176 then q else fR c u y := fun u y => by
    rw [← he]; simp only [fR_uI, fR_uR]
  have eK : ∀ u, kl e u = kl c u := fun u => by rw [← he]; rfl
  have eA : ∀ u, aR e u = aR c u := fun u => by rw [← he]; rfl
  have eN : nxt e = nxt c := by rw [← he]; rfl
  have eS : slo e = slo c := by rw [← he]; rfl
  have k176 : ky 176 11 = 11 := rfl
  have kyq : ky q 6 = 6 := by unfold ky; rw [if_neg (by omega)]
  have hx : CX stY [] c e := by
    rw [← he]
    refine CX.uI (CX.uI (CX.uI (CX.uI (CX.uI (CX.uI (CX.uR (CX.uR CX.rf (fun _ => ?_)) (fun _ => ?_)) (fun _ => ?_)) (fun _ => ?_)) (fun _ => ?_)) (fun _ => ?_)) (fun _ => ?_)) (fun _ => ?_)
    all_goals simp only [kl_uI, kl_uR, k1, kq, k176, kyq]; decide
  clear he
  refine hF e hx ⟨⟨?_, ?_⟩, by omega, fun a _ => eK a, fun a a1 a2 => by omega⟩ ?_ ⟨?_, ?_, ?_, ?_, ?_, ?_, ?_, ?_, ?_⟩ (fun u hu => ⟨⟨⟨hu.1.1.1, by rw [eN]; exact hu.1.1.2⟩, ?_, ?_⟩, fun hk => ⟨eK u, fun y _ => ⟨?_, ?_⟩⟩⟩)
  · unfold PHI; rw [eA, eA, eA, eA, eN]; exact Nat.le_refl _
  · unfold PHI; rw [eA, eA, eA, eA, eS]; exact Nat.le_refl _
  · obtain ⟨q1, q2, q3⟩ := hP
    refine ⟨fun z hz => ?_, fun r z i j hr hz i0 i1 j0 j1 he hn => ?_, fun r z i j hr hz i0 i1 j0 j1 he hn => ?_⟩
    · obtain ⟨⟨⟨c1, c2⟩, c3, c4⟩, c5, c6⟩ := q1 z hz
      refine ⟨?_, fun i i0 i1 => ?_, fun i i0 i1 => ?_⟩
      · rw [eI, eI]
        by_cases hzq : z = q
        · subst hzq
          simp [q176]
        · have z176 : z ≠ 176 := by omega
          simp [hzq, z176]
          omega
      · rw [eA, eK, eN]; exact c5 i i0 i1
      · rw [eA, eK, eN]; exact c6 i i0 i1
    · rw [eA] at he hn; rw [eA] at he
      exact q2 r z i j hr hz i0 i1 j0 j1 he hn
    · rw [eA] at he hn; rw [eA] at he
      exact q3 r z i j hr hz i0 i1 j0 j1 he hn
  · rw [eR]; simp
  · rw [eR]; simp
  · rw [eI]; simp
  · rw [eI]; simp
  · rw [eI]; simp
  · rw [eI]; simp
  · rw [eI]; simp [q176]
  · rw [eI]; simp [q176]
  · rw [eR]; simp
  · intro i i0 i1
    rw [eA]
    have : (0 : Int) ≤ i := by rw [eI] at i0; simpa [q176] using i0
    exact (hu.2 q (by omega) (by omega)).1 i this i1
  · intro i i0 i1
    rw [eA]
    have : (0 : Int) ≤ i := by rw [eI] at i0; simpa [q176] using i0
    exact (hu.2 q (by omega) (by omega)).2 i this i1
  · have u1 : u ≠ 176 := by have := hu.1.1.1; omega
    have u2 : u ≠ q := by have := hu.1.1.1; omega
    rw [eI]; simp [u1, u2]
  · have u1 : u ≠ 176 := by have := hu.1.1.1; omega
    rw [eR]; simp [u1]
/-- the result is noted -/
theorem end_c {F : Int → SC → Prop} (hX : FIX c) (hp : PLP c q p) (hR : (R.2.1 = 0 → isV R.2.2.2 = true) ∧ (R.2.1 = 0 ∨ 2 ≤ R.2.1)) (h3 : fI c 176 3 = R.1) (h4 : fI c 176 4 = if R.2.1 = 0 then -1 else R.2.1) (h5 : fI c 176 5 = R.2.2.1) (hv : R.2.1 = 0 → DV A c (YNG c q) R.2.2.2 r []) (hs : R.2.1 ≠ 0 → r = 2) (hF : ∀ e, WZP A c e p q R r → F (outE R) e) : ck iv L h0 d 231 [vr 176, vr r] c (qi F) := by
  obtain ⟨hpq, h1, h2, hP⟩ := hp
  obtain ⟨k1, k2, k3⟩ := hX.wk
  have h353 := hX.2.2.1
  have k176 : ky 176 11 = 11 := rfl
  have q176 : q ≠ 176 := by omega
  refine C231 ⟨k1, fun z => ?_, fun z => ?_⟩
  · subst z
    have g0 : R.2.1 ≠ 0 := fun g => DV_ne (hR.1 g) (hv g) rfl
    rw [if_neg g0] at h4
    have hx : CX wzY wkR c (uR c 176 6 2) := CX.uR CX.rf (fun _ => by rw [k1, k176]; decide)
    have := hF (uR c 176 6 2) ⟨⟨hx, RMP.rf⟩, ⟨hpq, by rw [fR_uR, if_neg (by omega)]; exact h1, by rw [fR_uR, if_neg (by omega)]; exact h2, PL2_eq hP rfl (fun _ _ _ => rfl) (fun _ => rfl) (fun _ => rfl)⟩, ⟨h3, h5, by rw [fR_uR, if_pos ⟨rfl, rfl⟩], by unfold outE; rw [if_neg g0]; exact h4⟩, fun g => absurd g g0, fun _ => rfl⟩
    unfold outE at this
    rw [if_neg g0] at this
    rw [h4]
    exact this
  · have g0 : R.2.1 = 0 := Classical.byContradiction fun g => z (hs g)
    have hvv := hv g0
    obtain ⟨⟨d1, d2⟩, d3, d4⟩ := DV_kind (hR.1 g0) hvv
    have r176 : r ≠ 176 := by have := d1.1.1.1; omega
    have key : ∀ z : Int, outE R = z → WZP A c (uI (uR c 176 6 r) 176 4 z) p q R r := fun z hz => by
      have hx : CX wzY wkR c (uI (uR c 176 6 r) 176 4 z) := CX.uI (CX.uR CX.rf (fun _ => by rw [k1, k176]; decide)) (fun _ => by rw [kl_uR, k1, k176]; decide)
      have eL : ∀ u, LIV c q u → LIV (uI (uR c 176 6 r) 176 4 z) q u := LIV_eq rfl (fun v => by rw [fI_uI, if_neg (fun w => q176 w.2)]; rfl) (fun _ => rfl)
      have eY := yng_up eL (fun z i hz hn => ⟨rfl, rfl⟩)
      have hst : STY (YNG c q) (YNG (uI (uR c 176 6 r) 176 4 z) q) c (uI (uR c 176 6 r) 176 4 z) := fun u hu => ⟨eY u hu, fun _ => ⟨rfl, fun y _ => ⟨by rw [fI_uI, if_neg (fun w => by have := hu.1.1.1; omega)]; rfl, by rw [fR_uI, fR_uR, if_neg (fun w => by have := hu.1.1.1; omega)]⟩⟩⟩
      refine ⟨⟨hx, RMP.rf⟩, ⟨hpq, ?_, ?_, PL2_eq hP rfl (fun z y hz => ?_) (fun _ => rfl) (fun _ => rfl)⟩, ⟨?_, ?_, ?_, ?_⟩, fun _ => ⟨⟨by have := d1.1.1.1; omega, d2⟩, DV_up hst _ _ r [] (Nat.lt_succ_self _) hvv⟩, fun g => absurd g0 g⟩
      · rw [fR_uI, fR_uR, if_neg (by omega)]; exact h1
      · rw [fR_uI, fR_uR, if_neg (by omega)]; exact h2
      · rw [fI_uI, if_neg (by omega)]; rfl
      · rw [fI_uI, if_neg (by omega)]; exact h3
      · rw [fI_uI, if_neg (by omega)]; exact h5
      · rw [fR_uI, fR_uR, if_pos ⟨rfl, rfl⟩]
      · rw [fI_uI, if_pos ⟨rfl, rfl⟩]; exact hz.symm
    refine ⟨d2, fun w => ?_, fun w => ?_⟩
    · rw [d4] at w
      have hl : hsL R.2.2.2 = false := bool_if.1 w
      have ho : outE R = 0 := by unfold outE; rw [if_pos g0, if_neg (by rw [hl]; decide)]
      have := hF _ (key 0 ho)
      rw [ho] at this
      rw [fI_uI, if_pos ⟨rfl, rfl⟩]
      exact this
    · rw [d4] at w
      have hl : hsL R.2.2.2 = true := bool_if.2 w
      have ho : outE R = 1 := by unfold outE; rw [if_pos g0, if_pos hl]
      have := hF _ (key 1 ho)
      rw [ho] at this
      rw [fI_uI, if_pos ⟨rfl, rfl⟩]
      exact this
end
end
section
/-! The worker of the desk: work and go on, as wholes (C227, C228). -/
section
variable {iv : List (Int × Int)} {L : Nat} {h0 : MH} {A A' : Int → Nat} {P : Nat → Prop} {c c0 e f : SC} {σ s s' w : SM} {t : Term} {d p q a g x y r : Nat} {n b most st kv ks kv' ks' k0 k1 k : Int} {ys : List (Nat × Nat)} {rs : List Nat} {R : RS} {X Y E V : Term} {l : List (Int × Nat)}
/-- the ground of both -/
def DGR (A : Int → Nat) (c : SC) (σ : SM) (t : Term) : Prop := (R1 A c σ t ∧ SHT σ t ∧ NB σ ∧ RSN σ t) ∧ ∀ b, b ∈ fl t → σ.2 21 b = (jdg σ t).2.2 b ∧ (σ.2 21 b = 1 → σ.2 9 b = 3)
theorem DGR.gr (h : DGR A c σ t) (hx : CX stY [] c e) (hq : q = 177 ∨ q = 180) : DWX A e σ t q := ⟨⟨h.1.1.x h.1.2.1 hx (by decide) (by decide) (by decide) (fun _ _ w => by cases w), h.1.2⟩, hq, h.2⟩
theorem dws0 (hn : 0 ≤ n ∧ n ≤ 300) (hP : PL2 c) (h : fR c 176 0 = q ∧ fR c 176 1 = p ∧ fI c 176 2 = n ∧ fI c 176 3 = 0 ∧ fI c 176 4 = -1 ∧ fI c 176 5 = -9 ∧ fI c q 2 = 0 ∧ fI c q 3 = 0 ∧ r = y) : DWS c q n 0 0 0 c := by
  obtain ⟨h1, h2, h3, h4, h5, h6, h7, h8, -⟩ := h
  exact ⟨CX.rf, hP, ⟨h1, h3, h4, h5, h6⟩, ⟨Int.le_refl _, hn.1, hn.2⟩, by omega, by omega⟩
theorem stwz : ∀ y, y ∈ stY → y ∈ wzY := by decide
theorem wkwz : ∀ y, y ∈ wkY → y ∈ wzY := by decide
/-- from where it starts to where it ends -/
theorem wz_of (hX : FIX c) (hs : CX stY [] c e ∧ RMP c e) {v : SC} (h : WZP A f v p q R r) (hw : CX wkY wkR e f ∧ RMP e f) : WZP A c v p q R r := by
  obtain ⟨⟨a1, a2⟩, a3⟩ := h
  exact ⟨⟨(hs.1.up stwz (fun _ z => by cases z)).tr ((hw.1.up wkwz (fun _ z => z)).tr a1), hs.2.tr (hw.2.tr a2)⟩, a3⟩
theorem pl_of (hX : FIX e) (hpq : (p = 177 ∧ q = 180) ∨ (p = 180 ∧ q = 177)) (h0 : fR e 176 0 = q) (h1 : fR e 176 1 = p) (hx : CX wkY wkR e f) (hP : PL2 f) : PLP f q p := ⟨by omega, by rw [(wk_i hX hx (Or.inl rfl)).2]; exact h0, by rw [(wk_i hX hx (Or.inr (Or.inl rfl))).2]; exact h1, hP⟩
theorem workall_c {F : Int → SC → Prop} (hG : DGR A c σ t) (hp : PLP c p q) (hn : 0 ≤ n ∧ n ≤ 300) (hdd : 200 ≤ d) (hF : ∀ e r, WZP A c e p q ((EV σ n 60).1 (hd t) (nulE 26) 0) r → F (outE ((EV σ n 60).1 (hd t) (nulE 26) 0)) e) : ck iv L h0 d 227 [vr 176, vr (A (hd t)), vi n] c (qi F) := by
  obtain ⟨d, rfl⟩ : ∃ k, d = k + 2 := ⟨d - 2, by omega⟩
  have hX := hG.1.1.1.1
  have hT := hG.1.2.1
  refine C227 ⟨hX.wk.1, start_c hX hp (fun e x1 r1 P1 f1 s1 => ?_)⟩
  have hXe := hX.x x1 (by decide) (by decide)
  have hpq := hp.1
  have hD := hG.gr (q := q) x1 (by omega)
  have hS : DWS e q n 0 0 0 e := dws0 (r := fR e 176 6) (y := fR c 176 6) hn P1 f1
  have top : hd t ∈ fl t := by
    have := top_mem hT
    rwa [hT.2.2.2.2.2.1]
  have bT : ∀ x, bds σ (hd t) x = -9 := fun x => by
    show bnd (σ.2 9) (σ.2 10) (σ.2 12) (σ.2 13) 70 (hd t) x = -9
    unfold bnd
    rw [if_pos hT.2.2.2.2.2.2.1]
  have cv : cov σ (hd t) (nulE 26) := fun x _ _ hx => absurd (bT x) hx
  have hRO := EV_okd (most := n) hD 60 (hd t) (nulE 26) 0 top (nulE_is 26) (nulE_VG 26) cv hn.1
  refine ⟨hXe.wk.1, ck_mono (WCD_all hD 60 (Nat.le_refl _) (hd t) 0 (nulE 26) e 2 [] top (nulE_is 26) (nulE_VG 26) cv rfl (DV_nul 26) hS) (by omega) (fun r f h => ?_)⟩
  have hxf := h.1.1
  have hXf := hXe.x hxf (by decide) (by decide)
  refine ⟨hXf.wk.1, end_c (p := p) (q := q) hXf (pl_of hXe hpq f1.1 f1.2.1 hxf h.2.1.2) ⟨fun g => (hRO.2.2 g).2.1, by have := hRO.2.1; omega⟩ h.2.2.1.1 h.2.2.1.2.1 h.2.2.1.2.2 h.2.2.2.2.1 h.2.2.2.2.2 (fun e' h' => hF e' r (wz_of hX ⟨x1, r1⟩ h' ⟨hxf, h.1.2⟩))⟩
theorem goonall_c {F : Int → SC → Prop} (hG : DGR A c σ t) (hp : PLP c p q) (hn : 0 ≤ n ∧ n ≤ 300) (hdd : 200 ≤ d) (hFN : FN σ t) (hL : FLK A c σ t) (hV : isV V = true ∧ VO σ t V) (hv : DV A c (YNG c p) V (fR c 176 6) []) (hF : ∀ e r, WZP A c e p q ((EV σ n 60).2 V 0) r → F (outE ((EV σ n 60).2 V 0)) e) : ck iv L h0 d 228 [vr 176, vi n] c (qi F) := by
  obtain ⟨d, rfl⟩ : ∃ k, d = k + 2 := ⟨d - 2, by omega⟩
  have hX := hG.1.1.1.1
  have hT := hG.1.2.1
  refine C228 ⟨hX.wk.1, start_c hX hp (fun e x1 r1 P1 f1 s1 => ?_)⟩
  have hXe := hX.x x1 (by decide) (by decide)
  have hpq := hp.1
  have hD := hG.gr (q := q) x1 (by omega)
  have hS : DWS e q n 0 0 0 e := dws0 (r := fR e 176 6) (y := fR c 176 6) hn P1 f1
  have hND := hG.1.1.1.2.1
  have h12 : ∀ b, 0 ≤ b → b < σ.1 8 → fR e (A b) 12 = fR c (A b) 12 := fun b b0 b1 => by
    obtain ⟨⟨m1, -⟩, m9, m10⟩ := hND.2 b b0 b1
    exact x1.r (by omega) (by rw [ky5 m10, m1]; decide)
  have hLe : FLK A e σ t := ⟨fun b b0 b1 h => by rw [h12 b b0 b1]; exact hL.1 b b0 b1 h, hL.2.1, fun b hb => by rw [h12 b (hT.lt hb).1 (hT.lt hb).2.1]; exact hL.2.2 b hb⟩
  have hRO := EV_okO (most := n) hD hFN 60 V 0 hV.1 hV.2 hn.1
  have hve := DV_up s1 _ V _ [] (Nat.lt_succ_self _) hv
  refine ⟨hXe.wk.1, ck_mono (OCD_all hD hFN hLe 60 (Nat.le_refl _) V 0 e _ hV.1 hV.2 hve hS) (by omega) (fun r f h => ?_)⟩
  have hxf := h.1.1
  have hXf := hXe.x hxf (by decide) (by decide)
  refine ⟨hXf.wk.1, end_c (p := p) (q := q) hXf (pl_of hXe hpq f1.1 f1.2.1 hxf h.2.1.2) ⟨fun g => (hRO.2.2 g).2.1, by have := hRO.2.1; omega⟩ h.2.2.1.1 h.2.2.1.2.1 h.2.2.1.2.2 h.2.2.2.2.1 h.2.2.2.2.2 (fun e' h' => hF e' r (wz_of hX ⟨x1, r1⟩ h' ⟨hxf, h.1.2⟩))⟩
end
end
section
/-! What of works stays over other changes of the desk. -/
section
variable {iv : List (Int × Int)} {L : Nat} {h0 : MH} {A A' : Int → Nat} {P Q : Nat → Prop} {c c0 e f : SC} {σ s s' : SM} {t : Term} {d p q a g x y r w : Nat} {n b : Int} {ys : List (Nat × Nat)} {rs : List Nat} {R : RS} {X Y E V : Term} {l : List (Int × Nat)} {o : List Int × List Term}
/-- keys and rows of the pools are not among these -/
def NPY (ys : List (Nat × Nat)) (rs : List Nat) : Prop := (∀ y, (10, y) ∉ ys ∧ (7, y) ∉ ys) ∧ ((6, 2) ∉ ys ∧ (6, 3) ∉ ys) ∧ 178 ∉ rs ∧ 179 ∉ rs ∧ 181 ∉ rs ∧ 182 ∉ rs
theorem pool_row (hX : FIX c) (hx : CX ys rs c e) (h : NPY ys rs) (hp : p = 177 ∨ p = 180) : aR e (p + 1) = aR c (p + 1) ∧ aR e (p + 2) = aR c (p + 2) ∧ fI e p 2 = fI c p 2 ∧ fI e p 3 = fI c p 3 := by
  obtain ⟨k1, -⟩ := hX.pl hp
  have h353 := hX.2.2.1
  have hr1 : rk (p + 1) (kl c (p + 1)) ∉ rs := by unfold rk; rw [if_pos (by omega)]; rcases hp with rfl | rfl; exact h.2.2.1; exact h.2.2.2.2.1
  have hr2 : rk (p + 2) (kl c (p + 2)) ∉ rs := by unfold rk; rw [if_pos (by omega)]; rcases hp with rfl | rfl; exact h.2.2.2.1; exact h.2.2.2.2.2
  have hk : ky p (kl c p) = 6 := by unfold ky; rw [if_neg (by omega), k1]
  exact ⟨hx.ar (by omega) hr1, hx.ar (by omega) hr2, hx.i (by omega) (by rw [hk]; exact h.2.1.1), hx.i (by omega) (by rw [hk]; exact h.2.1.2)⟩
theorem liv_cx (hX : FIX c) (hx : CX ys rs c e) (h : NPY ys rs) (hp : p = 177 ∨ p = 180) (u : Nat) (hu : LIV c p u) : LIV e p u := by
  obtain ⟨r1, r2, r3, r4⟩ := pool_row hX hx h hp
  refine ⟨⟨hu.1.1, Nat.lt_of_lt_of_le hu.1.2 hx.n⟩, fun i i0 i1 => ?_, fun i i0 i1 => ?_⟩
  · rw [r1]; exact hu.2.1 i (by rw [r3] at i0; exact i0) i1
  · rw [r2]; exact hu.2.2 i (by rw [r4] at i0; exact i0) i1
theorem yng_cx (hX : FIX c) (hx : CX ys rs c e) (h : NPY ys rs) (hp : p = 177 ∨ p = 180) : ∀ u, YNG c p u → YNG e p u :=
  yng_up (liv_cx hX hx h hp) (fun q i hq hn => ⟨by rw [(pool_row hX hx h hq).1], by rw [(pool_row hX hx h hq).2.1]⟩)
theorem sty_cx (hX : FIX c) (hx : CX ys rs c e) (h : NPY ys rs) (hp : p = 177 ∨ p = 180) : STY (YNG c p) (YNG e p) c e := fun u hu => ⟨yng_cx hX hx h hp u hu, fun hk => by
  have hl := hu.1.1.2
  have h3 := hu.1.1.1
  have hky : ky u (kl c u) = kl c u := by unfold ky; rw [if_neg (by omega)]
  have hn : ∀ y, (ky u (kl c u), y) ∉ ys := fun y => by
    rw [hky]
    rcases hk with k | k <;> rw [k]
    · exact (h.1 y).1
    · exact (h.1 y).2
  exact ⟨hx.k hl, fun y _ => ⟨hx.i hl (hn y), hx.r hl (hn y)⟩⟩⟩
theorem PL2_cx (hX : FIX c) (hx : CX ys rs c e) (h : NPY ys rs) (hP : PL2 c) : PL2 e := by
  obtain ⟨q1, q2, q3⟩ := hP
  refine ⟨fun q hq => ?_, fun r q i j hr hq i0 i1 j0 j1 he hn => ?_, fun r q i j hr hq i0 i1 j0 j1 he hn => ?_⟩
  · obtain ⟨r1, r2, r3, r4⟩ := pool_row hX hx h hq
    obtain ⟨c1, c5, c6⟩ := q1 q hq
    have hn := hx.n
    refine ⟨by rw [r3, r4]; exact c1, fun i i0 i1 => ?_, fun i i0 i1 => ?_⟩
    · rw [r1]; exact (c5 i i0 i1).imp id (fun z => ⟨z.1, by omega, by rw [hx.k z.2.1]; exact z.2.2⟩)
    · rw [r2]; exact (c6 i i0 i1).imp id (fun z => ⟨z.1, by omega, by rw [hx.k z.2.1]; exact z.2.2⟩)
  · rw [(pool_row hX hx h hr).1] at he hn; rw [(pool_row hX hx h hq).1] at he
    exact q2 r q i j hr hq i0 i1 j0 j1 he hn
  · rw [(pool_row hX hx h hr).2.1] at he hn; rw [(pool_row hX hx h hq).2.1] at he
    exact q3 r q i j hr hq i0 i1 j0 j1 he hn
theorem PLP_cx (hX : FIX c) (hx : CX ys rs c e) (h : NPY ys rs) (h11 : (11, 0) ∉ ys ∧ (11, 1) ∉ ys) (hP : PLP c p q) : PLP e p q := by
  obtain ⟨a1, a2, a3, a4⟩ := hP
  have h353 := hX.2.2.1
  have hk : ky 176 (kl c 176) = 11 := by rw [hX.wk.1]; rfl
  exact ⟨a1, (hx.r (by omega) (by rw [hk]; exact h11.1)).trans a2, (hx.r (by omega) (by rw [hk]; exact h11.2)).trans a3, PL2_cx hX hx h a4⟩
theorem PHI_cx (hX : FIX c) (hx : CX ys rs c e) (h : NPY ys rs) : PHI e = PHI c := by
  obtain ⟨r1, r2, -⟩ := pool_row hX hx h (Or.inl rfl)
  obtain ⟨r3, r4, -⟩ := pool_row hX hx h (Or.inr rfl)
  unfold PHI
  rw [r1, r2, r3, r4]
theorem RMP_cx (hX : FIX c) (hx : CX ys rs c e) (h : NPY ys rs) (hr : RMk 0 0 c e) : RMP c e := by
  have h1 := PHI_cx hX hx h
  have h2 := hx.n
  obtain ⟨r1, r2⟩ := hr
  exact ⟨⟨by omega, by omega⟩, h2, fun a ha => hx.k ha, fun a a1 a2 => by omega⟩
/-- what a writer does, as a change -/
theorem WX.cx (hw : kl c w = 12) (hl : w < 235) (h : WX w c e) : CX [(12, 1), (12, 3), (12, 6)] [w + 1, w + 2, w + 3, w + 4] c e := by
  obtain ⟨⟨a1, a2⟩, a3, a4, a5, a6⟩ := h
  refine ⟨by omega, fun a _ => a3 a, fun a y ha hy => ⟨a4 a y (fun z => hy ?_), a5 a y⟩, fun a ha hr => a6 a (fun z => hr ?_)⟩
  · rw [z.1, hw]
    have : ky w 12 = 12 := by unfold ky; rw [if_neg (by omega)]
    rw [this]
    rcases z.2 with e | e | e <;> rw [e] <;> decide
  · unfold rk
    rw [if_pos (by omega)]
    have : a = w + 1 ∨ a = w + 2 ∨ a = w + 3 ∨ a = w + 4 := by omega
    rcases this with e | e | e | e <;> rw [e] <;> simp
theorem npy_w (hw : w = 183 ∨ w = 188) : NPY [(12, 1), (12, 3), (12, 6)] [w + 1, w + 2, w + 3, w + 4] := by
  refine ⟨fun y => ⟨by simp, by simp⟩, ⟨by decide, by decide⟩, ?_⟩
  rcases hw with rfl | rfl <;> decide
theorem WX.rm (h : WX w c e) (hw : w = 183 ∨ w = 188) : RMP c e := by
  obtain ⟨⟨a1, a2⟩, a3, a4, a5, a6⟩ := h
  have : PHI e = PHI c := by unfold PHI; rw [(a6 178 (by omega)).2, (a6 181 (by omega)).2, (a6 179 (by omega)).2, (a6 182 (by omega)).2]
  exact ⟨⟨by omega, by omega⟩, by omega, fun a _ => (a3 a).1, fun a a1 a2 => by omega⟩
/-- a value over new births -/
theorem DV_EXT (hE : EXT A A' (s.1 8)) : ∀ (m : Nat) (V : Term) (a : Nat) (l : List (Int × Nat)), SizeOf.sizeOf V < m → VB s V → DV A c P V a l → DV A' c P V a l := by
  intro m
  induction m with
  | zero => intro V a l h; omega
  | succ m ih =>
    intro V a l hm hb hv
    cases V with
    | null => exact trivial
    | int z => exact hv
    | arg z => exact hv
    | index z => exact hv
    | mul r y =>
      obtain ⟨h1, h2, h3⟩ := hv
      have hb : VB s r ∧ (y = .null ∨ (isV y = true ∧ VB s y)) := hb
      simp only [Term.mul.sizeOf_spec] at hm
      exact ⟨ih r _ _ (by omega) hb.1 h1, h2, fun q => ih y _ _ (by omega) (hb.2.resolve_left q).2 (h3 q)⟩
    | add x y =>
      obtain ⟨h1, h2, h3, h4⟩ := hv
      simp only [Term.add.sizeOf_spec] at hm
      exact ⟨h1, h2, ih x _ _ (by omega) hb.1.2 h3, ih y _ _ (by omega) hb.2.2 h4⟩
    | length x =>
      obtain ⟨h1, h2, h3⟩ := hv
      simp only [Term.length.sizeOf_spec] at hm
      exact ⟨h1, h2, ih x _ _ (by omega) hb.2 h3⟩
    | sub b E =>
      cases b with
      | index b =>
        obtain ⟨h1, h2, h3, l', h4, h5⟩ := hv
        simp only [Term.sub.sizeOf_spec] at hm
        exact ⟨h1, h2.trans (hE b hb.1).symm, h3, l', h4, ih E _ _ (by omega) hb.2.2 h5⟩
      | _ => exact hv.elim
    | div b E =>
      cases b with
      | index b =>
        obtain ⟨h1, h2, h3, l', h4, h5⟩ := hv
        simp only [Term.div.sizeOf_spec] at hm
        exact ⟨h1, h2.trans (hE b hb.1).symm, h3, l', h4, ih E _ _ (by omega) hb.2.2 h5⟩
      | _ => exact hv.elim
    | rem b z =>
      cases b with
      | index b =>
        cases z with
        | elem x z =>
          cases z with
          | elem y E =>
            obtain ⟨h1, h2, h3, h4, h5, h6, h7⟩ := hv
            obtain ⟨⟨b1, b2, b3⟩, b4, b5⟩ := hb
            simp only [Term.rem.sizeOf_spec, Term.elem.sizeOf_spec] at hm
            exact ⟨h1, h2.trans (hE b b1).symm, h3, ih x _ _ (by omega) b3 h4, h5, fun q => ih y _ _ (by omega) (b4.resolve_right q).2 (h6 q), h7.imp id (fun q => ⟨q.1, q.2.choose, q.2.choose_spec.1, ih E _ _ (by omega) (b5.resolve_right q.1).2 q.2.choose_spec.2⟩)⟩
          | _ => exact hv.elim
        | _ => exact hv.elim
      | _ => exact hv.elim
    | _ => exact hv.elim
end
end
section
/-! The desk: behind a working, what is noted and written (C53). -/
def nqY : List (Nat × Nat) := [(1, 15), (5, 11), (12, 1), (12, 3), (12, 6)]
def nqR : List Nat := [184, 185, 186, 187]
/-- a value held, with what is written of it -/
def HLD (A : Int → Nat) (c : SC) (s : SM) (p : Nat) (V : Term) (r : Nat) : Prop := (r ≠ 2 ∧ kl c r = 10) ∧ (isV V = true ∧ VB s V) ∧ DV A c (YNG c p) V r []
section
variable {iv : List (Int × Int)} {L : Nat} {h0 : MH} {A A' : Int → Nat} {P Q : Nat → Prop} {c c0 e f : SC} {σ s s' : SM} {t : Term} {d p q a g x y r w : Nat} {n b z : Int} {ys : List (Nat × Nat)} {rs : List Nat} {R : RS} {X Y E V : Term} {l : List (Int × Nat)} {o : List Int × List Term}
theorem FIX.wt (h : FIX c) : kl c 64 = 1 ∧ fR c 64 1 = 70 ∧ fR c 64 3 = 176 ∧ fR c 64 4 = 183 ∧ fR c 64 5 = 188 ∧ kl c 70 = 8 ∧ kl c 176 = 11 ∧ kl c 183 = 12 ∧ kl c 188 = 12 := by
  simp only [h.1]; exact ⟨trivial, trivial, trivial, trivial, trivial, trivial, trivial, trivial, trivial⟩
theorem NDW_of (h : R1 A c s t) (hT : SHT s t) : NDW A c s := ⟨fun b b0 b1 => by
  obtain ⟨⟨m1, m2, m3, m4, m5, -⟩, -⟩ := h.1.2.1.2 b b0 b1
  exact ⟨m1, m4, m5⟩, by have := hT.2.2.2.2.1; omega⟩
theorem WO_mono (hPQ : ∀ u, P u → Q u) (h : WO A P c w o) : WO A Q c w o := ⟨h.1, h.2.1, fun k V hV => ⟨DV_up (P := P) (Q := Q) (fun a ha => ⟨hPQ a ha, fun _ => ⟨rfl, fun _ _ => ⟨rfl, rfl⟩⟩⟩) _ V _ [] (Nat.lt_succ_self _) (h.2.2 k V hV).1, (h.2.2 k V hV).2⟩⟩
theorem HLD.kp (hX : FIX c) (hx : CX ys rs c e) (h : NPY ys rs) (hp : p = 177 ∨ p = 180) (hh : HLD A c s p V r) : HLD A e s p V r := by
  obtain ⟨⟨h1, h2⟩, h3, h4⟩ := hh
  have hk := (DV_kind h3.1 h4).1
  have hd := DV_up (sty_cx hX hx h hp) _ V r [] (Nat.lt_succ_self _) h4
  exact ⟨⟨h1, (DV_kind h3.1 hd).1.2⟩, h3, hd⟩
theorem yng2 {u : Nat} (h : YNG c p u) : u ≠ 2 := by have := h.1.1.1; omega
theorem note_c {F : Int → SC → Prop} (h1 : R1 A c s t) (hT : SHT s t) (hp : PLP c p q) (h6 : fR c 176 6 = r) (hh : r ≠ 2 → HLD A c s p V r) (hF : ∀ e, CX nqY nqR c e → RMP c e → R1 A e s t → PLP e p q → (r ≠ 2 → HLD A e s p V r ∧ WO A (YNG e p) e 183 (wrt s V)) → fI e 64 15 = 0 → (∀ x, x ∈ fl t → fI e (A x) 11 = (jdg s t).2.2 x) → (∀ a, (∀ x, x ∈ fl t → a ≠ A x) → fI e a 11 = fI c a 11) → F z e) : ck iv L h0 (d + 6) 53 [vr 64, vi z] c (qi F) := by
  have hX := h1.1.1
  have h353 := hX.2.2.1
  obtain ⟨w1, w2, w3, w4, w5, w6, w7, w8, w9⟩ := hX.wt
  have hp' : p = 177 ∨ p = 180 := by have := hp.1; omega
  have x0 : CX [(1, 15)] [] c (uI c 64 15 0) := CX.rf.uI (fun _ => by rw [w1]; decide)
  have r0 := h1.x hT x0 (by decide) (by decide) (by decide) (fun _ _ q => by cases q)
  refine C53 ⟨w1, by rw [w2]; exact w6, ?_⟩
  rw [w2]
  refine thens_c r0 hT (fun e r1 x1 m1 th ot => ?_)
  have n0 : NPY [(1, 15), (5, 11)] [] := ⟨fun y => ⟨by simp, by simp⟩, ⟨by decide, by decide⟩, by decide, by decide, by decide, by decide⟩
  have xe : CX [(1, 15), (5, 11)] [] c e := (x0.up (by decide) (fun _ q => q)).tr (x1.up (by decide) (fun _ q => q))
  have hXe := r1.1.1
  obtain ⟨v1, v2, v3, v4, v5, v6, v7, v8, v9⟩ := hXe.wt
  have hk : ky 176 (kl c 176) = 11 := by rw [w7]; rfl
  have e6 : fR e 176 6 = r := (xe.r (by omega) (by rw [hk]; decide)).trans h6
  have e15 : fI e 64 15 = 0 := by
    rw [ot 64 15 (Or.inl (by decide)), fI_uI, if_pos ⟨rfl, rfl⟩]
  have me : RMP c e := RMP_cx hX xe n0 ⟨m1.1, m1.2⟩
  have oth : ∀ a, (∀ x, x ∈ fl t → a ≠ A x) → fI e a 11 = fI c a 11 := fun a ha => by rw [ot a 11 (Or.inr ha), fI_uI, if_neg (by omega)]
  rw [v3, v4, e6]
  refine ⟨v1, v7, fun z => ?_, fun z => ⟨v8, ?_⟩⟩
  · exact hF e (xe.up (by decide) (fun _ q => by cases q)) me r1 (PLP_cx hX xe n0 ⟨by decide, by decide⟩ hp) (fun w => absurd z w) e15 th oth
  · have he := HLD.kp hX xe n0 hp' (hh z)
    refine written_c (fun a ha => yng2 ha) (hXe.wrc.1) (NDW_of r1 hT) he.2.1 he.2.2 (fun f hx ho => ?_)
    have xf := hx.cx v8 (by decide)
    have nw := npy_w (w := 183) (Or.inl rfl)
    have r2 := r1.x hT xf (by decide) (by decide) (by decide) (by decide)
    refine hF f ((xe.up (by decide) (fun _ q => by cases q)).tr (xf.up (by decide) (fun a ha => ha))) (me.tr (hx.rm (Or.inl rfl))) r2 (PLP_cx hXe xf nw ⟨by decide, by decide⟩ (PLP_cx hX xe n0 ⟨by decide, by decide⟩ hp)) (fun _ => ⟨HLD.kp hXe xf nw hp' he, WO_mono (yng_cx hXe xf nw hp') ho⟩) ?_ (fun x hx' => ?_) (fun a ha => by rw [hx.2.2.1 a 11 (fun q => by omega)]; exact oth a ha)
    · rw [hx.2.2.1 64 15 (fun q => by omega)]; exact e15
    · have hb := hT.lt hx'
      obtain ⟨-, -, n10⟩ := r1.1.2.1.2 x hb.1 hb.2.1
      rw [hx.2.2.1 (A x) 11 (fun q => by omega)]
      exact th x hx'
end
end
section
/-! The desk's calls work and resume (C24, C25). -/
def wqY : List (Nat × Nat) := wzY ++ nqY
def wqR : List Nat := wkR ++ nqR
/-- behind work and resume -/
def WKP (A : Int → Nat) (c e : SC) (σ : SM) (t : Term) (p q : Nat) (R : RS) (r : Nat) : Prop := (CX wqY wqR c e ∧ RMP c e) ∧ (R1 A e σ t ∧ PLP e q p) ∧ (fI e 176 3 = R.1 ∧ fI e 176 5 = R.2.2.1 ∧ fR e 176 6 = r ∧ fI e 176 4 = outE R) ∧ ((R.2.1 = 0 → r ≠ 2 ∧ HLD A e σ q R.2.2.2 r ∧ WO A (YNG e q) e 183 (wrt σ R.2.2.2)) ∧ (R.2.1 ≠ 0 → r = 2)) ∧ fI e 64 15 = 0 ∧ (∀ x, x ∈ fl t → fI e (A x) 11 = (jdg σ t).2.2 x) ∧ ∀ a, a < nxt c → (∀ x, x ∈ fl t → a ≠ A x) → fI e a 11 = fI c a 11
section
variable {iv : List (Int × Int)} {L : Nat} {h0 : MH} {A A' : Int → Nat} {P Q : Nat → Prop} {c c0 e f : SC} {σ s s' : SM} {t : Term} {d p q a g x y r w : Nat} {n b z : Int} {ys : List (Nat × Nat)} {rs : List Nat} {R : RS} {X Y E V : Term} {l : List (Int × Nat)} {o : List Int × List Term}
theorem dlim_c {F : Int → SC → Prop} (h1 : 0 ≤ n ∧ n ≤ 300 → F 1 c) (h2 : ¬ (0 ≤ n ∧ n ≤ 300) → F 0 c) : ck iv L h0 d 42 [vi n] c (qi F) :=
  C42 ⟨fun q => h2 (by omega), fun q => ⟨fun q2 => h2 (by omega), fun q2 => h1 ⟨q, q2⟩⟩⟩
/-- what comes behind the worker -/
theorem wkp_c {F : Int → SC → Prop} (h1 : R1 A c σ t) (hT : SHT σ t) (hw : WZP A c e p q R r) (hR : (R.2.1 = 0 → isV R.2.2.2 = true ∧ VB σ R.2.2.2)) (hF : ∀ f, WKP A c f σ t p q R r → F z f) : ck iv L h0 (d + 6) 53 [vr 64, vi z] e (qi F) := by
  obtain ⟨⟨w1, w2⟩, w3, w4, w5, w6⟩ := hw
  have hX := h1.1.1
  have r1 := h1.x hT w1 (by decide) (by decide) (by decide) (by decide)
  have hXe := r1.1.1
  have rr : r ≠ 2 → R.2.1 = 0 := fun q => Classical.byContradiction fun g => q (w6 g)
  refine note_c (V := R.2.2.2) r1 hT w3 w4.2.2.1 (fun q => ⟨(w5 (rr q)).1, hR (rr q), (w5 (rr q)).2⟩) (fun f x1 m1 r2 p2 v2 e15 th oth => hF f ⟨⟨(w1.up (fun y hy => List.mem_append_left _ hy) (fun y hy => List.mem_append_left _ hy)).tr (x1.up (fun y hy => List.mem_append_right _ hy) (fun y hy => List.mem_append_right _ hy)), w2.tr m1⟩, ⟨r2, p2⟩, ?_, ⟨fun g => ⟨(w5 g).1.1, v2 (w5 g).1.1⟩, w6⟩, e15, th, fun a ha hn => (oth a hn).trans (w1.i ha (by unfold wzY wkY; simp))⟩)
  have h353 := hXe.2.2.1
  have hk : ky 176 (kl e 176) = 11 := by rw [hXe.wk.1]; rfl
  exact ⟨(x1.i (by omega) (by rw [hk]; decide)).trans w4.1, (x1.i (by omega) (by rw [hk]; decide)).trans w4.2.1, (x1.r (by omega) (by rw [hk]; decide)).trans w4.2.2.1, (x1.i (by omega) (by rw [hk]; decide)).trans w4.2.2.2⟩
theorem dwork_no {F : Int → SC → Prop} (hn : ¬ (0 ≤ n ∧ n ≤ 300)) (hF : F (-1) c) : ck iv L h0 (d + 1) 24 [vr 64, vi n] c (qi F) :=
  C24 (dlim_c (fun w => absurd w hn) (fun _ => ⟨fun w => absurd rfl w, fun _ => hF⟩))
theorem dwork_c {F : Int → SC → Prop} (hG : DGR A c σ t) (hp : PLP c p q) (hn : 0 ≤ n ∧ n ≤ 300) (hdd : 210 ≤ d) (hF : ∀ e r, WKP A c e σ t p q ((EV σ n 60).1 (hd t) (nulE 26) 0) r → F (outE ((EV σ n 60).1 (hd t) (nulE 26) 0)) e) : ck iv L h0 d 24 [vr 64, vi n] c (qi F) := by
  obtain ⟨d, rfl⟩ : ∃ k, d = k + 7 := ⟨d - 7, by omega⟩
  have hT := hG.1.2.1
  have hX := hG.1.1.1.1
  obtain ⟨w1, w2, w3, w4, w5, w6, w7, w8, w9⟩ := hX.wt
  have h70 : fR c 70 1 = A (hd t) := hG.1.1.1.2.2.1.2
  have top : hd t ∈ fl t := by
    have := top_mem hT
    rwa [hT.2.2.2.2.2.1]
  have bT : ∀ x, bds σ (hd t) x = -9 := fun x => by
    show bnd (σ.2 9) (σ.2 10) (σ.2 12) (σ.2 13) 70 (hd t) x = -9
    unfold bnd
    rw [if_pos hT.2.2.2.2.2.2.1]
  have cv : cov σ (hd t) (nulE 26) := fun x _ _ hx => absurd (bT x) hx
  have hRO := evw_okw hT hG.1.2.2.1 hG.1.2.2.2 n 60 (hd t) (nulE 26) 0 top (nulE_is 26) (nulE_VG 26) cv hn.1
  refine C24 (dlim_c (fun _ => ⟨fun _ => ⟨w1, by rw [w2]; exact w6, by rw [w3]; exact w7, ?_⟩, fun w => by cases w⟩) (fun w => absurd hn w))
  rw [w2, w3, h70]
  refine workall_c hG hp hn (by omega) (fun e r h => ⟨(hG.1.1.x hT h.1.1 (by decide) (by decide) (by decide) (by decide)).1.1.wt.1, ?_⟩)
  exact wkp_c hG.1.1 hT h (fun g => ⟨(hRO.2.2 g).2.1, VB_g hT _ _ (Nat.lt_succ_self _) (hRO.2.2 g).2.2⟩) (fun f hf => hF f r hf)
theorem dres_no {F : Int → SC → Prop} (hn : ¬ (0 ≤ n ∧ n ≤ 300)) (hF : F (-1) c) : ck iv L h0 (d + 1) 25 [vr 64, vi n] c (qi F) :=
  C25 (dlim_c (fun w => absurd w hn) (fun _ => ⟨fun w => absurd rfl w, fun _ => hF⟩))
theorem dres_4 {F : Int → SC → Prop} (h1 : R1 A c s t) (hT : SHT s t) (hn : 0 ≤ n ∧ n ≤ 300) (h4 : fR c 176 6 = 2 ∨ fI c 64 15 ≠ 0 ∨ thn A c s t ≠ 0) (hF : F (-4) c) : ck iv L h0 (d + 1) 25 [vr 64, vi n] c (qi F) := by
  obtain ⟨w1, w2, w3, w4, w5, w6, w7, w8, w9⟩ := h1.1.1.wt
  refine C25 (dlim_c (fun _ => ⟨fun _ => ⟨w1, by rw [w3]; exact w7, ?_⟩, fun w => by cases w⟩) (fun w => absurd hn w))
  rw [w2, w3]
  refine ⟨fun _ => hF, fun q1 => ⟨fun _ => hF, fun q2 => ⟨w6, then_c h1 hT ⟨fun q3 => ?_, fun _ => hF⟩⟩⟩⟩
  rcases h4 with h | h | h
  · exact absurd h q1
  · exact absurd q2 h
  · exact absurd q3 h
theorem dres_c {F : Int → SC → Prop} (hG : DGR A c σ t) (hp : PLP c p q) (hn : 0 ≤ n ∧ n ≤ 300) (hdd : 210 ≤ d) (hFN : FN σ t) (hL : FLK A c σ t) (h15 : fI c 64 15 = 0) (hth : thn A c σ t = 0) (hr : fR c 176 6 = x ∧ x ≠ 2) (hV : isV V = true ∧ VO σ t V) (hv : DV A c (YNG c p) V x []) (hF : ∀ e r, WKP A c e σ t p q ((EV σ n 60).2 V 0) r → F (outE ((EV σ n 60).2 V 0)) e) : ck iv L h0 d 25 [vr 64, vi n] c (qi F) := by
  obtain ⟨d, rfl⟩ : ∃ k, d = k + 7 := ⟨d - 7, by omega⟩
  have hT := hG.1.2.1
  have hX := hG.1.1.1.1
  obtain ⟨w1, w2, w3, w4, w5, w6, w7, w8, w9⟩ := hX.wt
  have hRO := (evw_ok hT hG.1.2.2.1 hG.1.2.2.2 hFN n 60).2 V 0 hV.1 hV.2 hn.1
  refine C25 (dlim_c (fun _ => ⟨fun _ => ⟨w1, by rw [w3]; exact w7, ?_⟩, fun w => by cases w⟩) (fun w => absurd hn w))
  rw [w2, w3]
  refine ⟨fun w => absurd w (by rw [hr.1]; exact hr.2), fun _ => ⟨fun w => absurd h15 w, fun _ => ⟨w6, then_c hG.1.1 hT ⟨fun _ => ⟨w1, by rw [w3]; exact w7, ?_⟩, fun w => absurd hth w⟩⟩⟩⟩
  rw [w3]
  refine goonall_c hG hp hn (by omega) hFN hL hV (by rw [hr.1]; exact hv) (fun e r h => ⟨(hG.1.1.x hT h.1.1 (by decide) (by decide) (by decide) (by decide)).1.1.wt.1, ?_⟩)
  exact wkp_c hG.1.1 hT h (fun g => ⟨(hRO.2.2 g).2.1, VB_g hT _ _ (Nat.lt_succ_self _) (hRO.2.2 g).2.2⟩) (fun f hf => hF f r hf)
end
end
section
/-! What the desk tells of its last working (C26 to C30). -/
/-- a hole written, of births so far -/
def HLB (s : SM) (X : Term) : Prop := ∃ (b : Nat) (E : Term), X = .div (.index b) E ∧ isE 26 E ∧ VB s E ∧ (b : Int) < s.1 8
theorem outT_hb {s : SM} {so : Int → Int} : ∀ (n : Nat) (V : Term), SizeOf.sizeOf V < n → isV V = true → VB s V → ∀ (o : List Int × List Term), (∀ X, X ∈ o.2 → HLB s X) → ∀ X, X ∈ (outT so V o).2 → HLB s X := by
  intro n
  induction n with
  | zero => intro V hn; omega
  | succ n ih =>
    intro V hn hv hV o ho
    cases V with
    | int z => exact gd_h (x := pN z.toInt o) ho ho
    | arg z => exact gd_h (x := pW (if z = 1 then 19 else 20) o) ho ho
    | index x => exact gd_h (x := pB (97 + x) (pB 33 o)) ho ho
    | sub x E =>
      cases x with
      | index x => exact gd_h (x := pN x (pB 100 o)) ho ho
      | _ => cases hv
    | add A B =>
      refine gd_h (x := pB 93 (outT so B (pB 32 (outT so A (pB 91 o))))) ho ?_
      exact ih B (by simp at hn; omega) hV.2.1 hV.2.2 _ (ih A (by simp at hn; omega) hV.1.1 hV.1.2 _ ho)
    | div x E =>
      cases x with
      | index x =>
        refine gd_h (x := pN x (pB 63 (o.1, o.2 ++ [.div (.index x) E]))) ho (fun X hX => ?_)
        rcases List.mem_append.mp hX with hX | hX
        · exact ho X hX
        · rw [List.mem_singleton.mp hX]
          exact ⟨x, E, rfl, hV.2.1, hV.2.2, hV.1⟩
      | _ => cases hv
    | length A =>
      refine gd_h (x := pB 125 (outT so A (pB 123 o))) ho ?_
      exact ih A (by simp at hn; omega) hV.1 hV.2 _ ho
    | rem x q =>
      cases x with
      | index x =>
        cases q with
        | elem A q =>
          cases q with
          | elem B E =>
            obtain ⟨⟨b1, a1, a2⟩, hB, -⟩ := hV
            have r1 : ∀ X, X ∈ (outT so A (pB 32 (pW (wrd (so x)) (pB 40 o)))).2 → HLB s X := ih A (by simp at hn; omega) a1 a2 _ ho
            have z : ∀ (o' : List Int × List Term), (∀ X, X ∈ o'.2 → HLB s X) → ∀ X, X ∈ (outZ (so x) x o').2 → HLB s X := fun o' h' => by
              unfold outZ
              split <;> exact h'
            refine gd_h (x := outZ (so x) x (if isV B = true then outT so B (pB 32 (outT so A (pB 32 (pW (wrd (so x)) (pB 40 o))))) else outT so A (pB 32 (pW (wrd (so x)) (pB 40 o))))) ho (z _ ?_)
            split
            · next hvB =>
              rcases hB with hB | hB
              · exact ih B (by simp at hn; omega) hB.1 hB.2 _ r1
              · rw [hB] at hvB; cases hvB
            · exact r1
          | _ => cases hv
        | _ => cases hv
      | _ => cases hv
    | _ => cases hv
theorem wrt_hb {s : SM} {V : Term} (hV : isV V = true ∧ VB s V) : ∀ X, X ∈ (wrt s V).2 → HLB s X := outT_hb (SizeOf.sizeOf V + 1) V (Nat.lt_succ_self _) hV.1 hV.2 _ (fun X hX => by cases hX)
section
variable {iv : List (Int × Int)} {L : Nat} {h0 : MH} {A A' : Int → Nat} {P Q : Nat → Prop} {c c0 e f : SC} {σ s s' : SM} {t : Term} {d p q a g y r w : Nat} {n b z x i k : Int} {ys : List (Nat × Nat)} {rs : List Nat} {R : RS} {X Y E V : Term} {l : List (Int × Nat)} {o : List Int × List Term}
theorem byte_c {F : Int → SC → Prop} (hw : WRC c w) (ho : WO A P c w o) (hF : F (atB o.1 k) c) : ck iv L h0 d 246 [vr w, vi k] c (qi F) := by
  obtain ⟨⟨k1, k2, k3, k4, k5⟩, ⟨k6, k7, k8, k9⟩, k10, k11, k12, k13⟩ := hw
  obtain ⟨⟨⟨o1, o2⟩, o3⟩, -⟩ := ho
  unfold atB at hF
  refine C246 ⟨fun q => ⟨fun q2 => ?_, fun q2 => ⟨k1, fun q3 => ?_, fun q3 => ?_⟩⟩, fun q => ⟨k1, ?_⟩⟩
  · rw [if_neg q, if_neg (by omega)] at hF; exact hF
  · rw [if_neg q, if_neg (by omega)] at hF; exact hF
  · rw [if_neg q, if_pos (by omega)] at hF
    rw [k3]
    refine ⟨k7, by omega, ?_⟩
    have := o3 k.toNat _ (getD_at (x := 0) q2 (by omega))
    rw [show ((k.toNat : Nat) : Int) = k by omega] at this
    rw [this]
    exact hF
  · rw [if_pos q] at hF
    rw [o1]
    exact hF
theorem dsteps_c {F : Int → SC → Prop} (hX : FIX c) (hF : F (fI c 176 3) c) : ck iv L h0 d 26 [vr 64] c (qi F) := by
  obtain ⟨w1, w2, w3, w4, w5, w6, w7, w8, w9⟩ := hX.wt
  refine C26 ⟨w1, ?_⟩
  rw [w3]
  exact ⟨w7, hF⟩
theorem dwhere_c {F : Int → SC → Prop} (hX : FIX c) (hF : F (fI c 176 5) c) : ck iv L h0 d 27 [vr 64] c (qi F) := by
  obtain ⟨w1, w2, w3, w4, w5, w6, w7, w8, w9⟩ := hX.wt
  refine C27 ⟨w1, ?_⟩
  rw [w3]
  exact ⟨w7, hF⟩
theorem dvalue_c {F : Int → SC → Prop} (hX : FIX c) (H0 : fR c 176 6 = 2 → F (-9) c) (H1 : fR c 176 6 ≠ 2 → WO A P c 183 o ∧ F (atB o.1 k) c) : ck iv L h0 (d + 1) 28 [vr 64, vi k] c (qi F) := by
  obtain ⟨w1, w2, w3, w4, w5, w6, w7, w8, w9⟩ := hX.wt
  refine C28 ⟨w1, ?_⟩
  rw [w3, w4]
  exact ⟨w7, fun q => ⟨w8, byte_c hX.wrc.1 (H1 q).1 (H1 q).2⟩, fun q => H0 q⟩
/-- the hole of that number -/
theorem lefth_c {F : Nat → SC → Prop} (hX : FIX c) (H0 : fR c 176 6 = 2 → F 2 c) (ho : fR c 176 6 ≠ 2 → WO A P c 183 o) (H1 : fR c 176 6 ≠ 2 → ¬ (0 ≤ k ∧ k < o.2.length) → F 2 c) (H2 : fR c 176 6 ≠ 2 → (0 ≤ k ∧ k < o.2.length) → ∀ a, DV A c P (o.2.getD k.toNat .null) a [] → isW (o.2.getD k.toNat .null) = true → F a c) : ck iv L h0 d 54 [vr 64, vi k] c (qa F) := by
  obtain ⟨w1, w2, w3, w4, w5, w6, w7, w8, w9⟩ := hX.wt
  refine C54 ⟨w1, ?_⟩
  rw [w3, w4]
  refine ⟨w7, fun q => H0 q, fun q => ⟨fun q2 => H1 q (by omega), fun q2 => ⟨w8, fun q3 => ?_, fun q3 => ?_⟩⟩⟩
  · obtain ⟨⟨k1, k2, k3, k4, k5⟩, ⟨k6, k7, k8, k9⟩, k10, k11, k12, k13⟩ := hX.wrc.1
    obtain ⟨⟨⟨o1, o2⟩, o3⟩, ⟨o4, o5⟩, o6⟩ := ho q
    rw [k2]
    have := o6 k.toNat _ (getD_at (x := .null) q2 (by omega))
    rw [show ((k.toNat : Nat) : Int) = k by omega] at this
    exact ⟨k6, by omega, H2 q ⟨q2, by omega⟩ _ this.1 this.2⟩
  · have := (ho q).2.1.1
    exact H1 q (by omega)
theorem dleft_c {F : Int → SC → Prop} (hX : FIX c) (hN : NDW A c s) (hV : fR c 176 6 ≠ 2 → (isV V = true ∧ VB s V) ∧ WO A P c 183 (wrt s V)) (H0 : fR c 176 6 = 2 → F (-9) c) (H1 : fR c 176 6 ≠ 2 → F (lefA s V k) c) : ck iv L h0 (d + 1) 29 [vr 64, vi k] c (qi F) := by
  obtain ⟨w1, w2, w3, w4, w5, w6, w7, w8, w9⟩ := hX.wt
  refine C29 ⟨w1, lefth_c (P := P) (A := A) (o := wrt s V) hX (fun q => ⟨fun w => absurd rfl w, fun _ => H0 q⟩) (fun q => (hV q).2) (fun q q2 => ⟨fun w => absurd rfl w, fun _ => ?_⟩) (fun q q2 a hd hw => ?_)⟩
  · have := H1 q
    unfold lefA at this
    rw [if_neg q2] at this
    exact this
  · have := H1 q
    unfold lefA at this
    rw [if_pos q2] at this
    obtain ⟨bb, E, e1, e2, e3, e4⟩ := wrt_hb (hV q).1 _ (List.mem_of_getElem? (getD_at (x := .null) q2.1 q2.2))
    rw [e1] at hd this
    obtain ⟨⟨⟨h1, h1'⟩, h2⟩, h3, h4, l, h5, h6⟩ := hd
    obtain ⟨n1, n2, n3⟩ := hN.1 bb (by omega) e4
    rw [h3]
    refine ⟨fun _ => ⟨h1', n1, ?_⟩, fun w => by have := h1'; rw [w, hX.2.2.2] at this; omega⟩
    rw [n2]
    exact this
theorem dseen_c {F : Int → SC → Prop} (h1 : R1 A c s t) (hT : SHT s t) (hp : PLP c p q) (hV : fR c 176 6 ≠ 2 → (isV V = true ∧ VB s V) ∧ WO A (YNG c p) c 183 (wrt s V)) (H0 : ¬ (0 ≤ x ∧ x ≤ 25) → F (-1) c) (H1 : fR c 176 6 = 2 → (0 ≤ x ∧ x ≤ 25) → F (-9) c) (H2 : fR c 176 6 ≠ 2 → (0 ≤ x ∧ x ≤ 25) → ∀ e, WX 188 c e → F (senA s V k x i) e) : ck iv L h0 (d + 6) 30 [vr 64, vi k, vi x, vi i] c (qi F) := by
  have hX := h1.1.1
  obtain ⟨w1, w2, w3, w4, w5, w6, w7, w8, w9⟩ := hX.wt
  refine C30 (C40 ⟨fun w => ⟨fun z => absurd rfl z, fun _ => H0 (by omega)⟩, fun w => ⟨fun w' => ⟨fun z => absurd rfl z, fun _ => H0 (by omega)⟩, fun w' => ⟨fun _ => ⟨w1, ?_⟩, fun z => by cases z⟩⟩⟩)
  have hx : 0 ≤ x ∧ x ≤ 25 := by omega
  refine lefth_c (P := YNG c p) (A := A) (o := wrt s V) hX (fun q => ⟨fun w => absurd rfl w, fun _ => H1 q hx⟩) (fun q => (hV q).2) (fun q q2 => ⟨fun w => absurd rfl w, fun _ => ?_⟩) (fun q q2 a hd hw => ?_)
  · have := H2 q hx c WX.rf
    unfold senA at this
    rw [if_neg (fun z => q2 ⟨z.1, z.2.1⟩)] at this
    exact this
  · obtain ⟨bb, E, e1, e2, e3, e4⟩ := wrt_hb (hV q).1 _ (List.mem_of_getElem? (getD_at (x := .null) q2.1 q2.2))
    have es : seeV s V k x = lkE E x := by unfold seeV; rw [e1]
    rw [e1] at hd
    obtain ⟨⟨⟨h1', h1''⟩, h2⟩, h3, h4, l, h5, h6⟩ := hd
    have a2 : a ≠ 2 := yng2 h1'
    refine ⟨fun _ => ⟨w1, h1'', by rw [w3]; exact w7, ?_⟩, fun w => absurd w a2⟩
    rw [w3]
    obtain ⟨m, rfl⟩ : ∃ m : Nat, x = m := ⟨x.toNat, by omega⟩
    have lk := DV_lk 26 E e2 h6 m (Nat.zero_le _) (by omega)
    refine seen_find_c (fun a ha => yng2 ha) h5 ⟨fun z => ⟨w1, by rw [w5]; exact w9, ?_⟩, fun z => ?_⟩
    · have hnn : lkE E m ≠ .null := fun w => z (lk.1.mpr w)
      obtain ⟨v1, v2⟩ := VB_lk E m e3 hnn
      rw [w5]
      refine written_c (fun a ha => yng2 ha) hX.wrc.2 (NDW_of h1 hT) ⟨v1, v2⟩ (lk.2 hnn) (fun f hx' ho => ?_)
      have xf := hx'.cx w9 (by decide)
      have hXf := (h1.x hT xf (by decide) (by decide) (by decide) (by decide)).1.1
      obtain ⟨y1, y2, y3, y4, y5, y6, y7, y8, y9⟩ := hXf.wt
      refine ⟨y1, by rw [y5]; exact y9, ?_⟩
      rw [y5]
      refine byte_c hXf.wrc.2 ho ?_
      have := H2 q hx f hx'
      unfold senA at this
      rw [es, if_pos ⟨q2.1, q2.2, hnn⟩] at this
      exact this
    · have := H2 q hx c WX.rf
      unfold senA at this
      rw [es, if_neg (fun w => w.2.2 (lk.1.mp z))] at this
      exact this
end
end
