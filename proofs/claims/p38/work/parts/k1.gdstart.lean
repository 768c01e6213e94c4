section
/-! The worker of the desk: where it starts, where it ends (C230, C231, C227, C228). -/
def stY : List (Nat × Nat) := [(6, 2), (6, 3), (11, 0), (11, 1), (11, 2), (11, 3), (11, 4), (11, 5)]
def wzY : List (Nat × Nat) := (11, 0) :: (11, 1) :: (11, 2) :: (11, 6) :: wkY
/-- the pools: the one in use, the other -/
def PLP (c : SC) (p q : Nat) : Prop := ((p = 177 ∧ q = 180) ∨ (p = 180 ∧ q = 177)) ∧ fR c 176 0 = p ∧ fR c 176 1 = q ∧ PL2 c
/-- behind a working -/
def WZP (A : Int → Nat) (c e : SC) (p q : Nat) (R : RS) (r : Nat) : Prop := (CX wzY wkR c e ∧ RMP c e) ∧ PLP e q p ∧ (fI e 176 3 = R.1 ∧ fI e 176 5 = R.2.2.1 ∧ fR e 176 6 = r ∧ fI e 176 4 = outE R) ∧ (R.2.1 = 0 → (r ≠ 2 ∧ kl e r = 10) ∧ DV A e (YNG e q) R.2.2.2 r []) ∧ (R.2.1 ≠ 0 → r = 2)
theorem DV_nul {A : Int → Nat} {c : SC} {P : Nat → Prop} : ∀ n : Nat, DV A c P (nulE n) 2 [] := by
  intro n
  induction n with
  | zero => exact trivial
  | succ n ih => exact ⟨ih, ⟨fun _ => rfl, fun _ => rfl⟩, fun w => absurd rfl w⟩
section
variable {iv : List (Int × Int)} {L : Nat} {h0 : MH} {A A' : Int → Nat} {P : Nat → Prop} {c c0 e f : SC} {σ s s' w : SM} {t : Term} {d p q a g x y r : Nat} {n b most st kv ks kv' ks' k0 k1 k : Int} {ys : List (Nat × Nat)} {rs : List Nat} {R : RS} {X Y E V : Term} {l : List (Int × Nat)}
theorem start_c {F : SC → Prop} (hX : FIX c) (hp : PLP c p q) (hF : ∀ e, CX stY [] c e → RMP c e → PL2 e → (fR e 176 0 = q ∧ fR e 176 1 = p ∧ fI e 176 2 = n ∧ fI e 176 3 = 0 ∧ fI e 176 4 = -1 ∧ fI e 176 5 = -9 ∧ fI e q 2 = 0 ∧ fI e q 3 = 0 ∧ fR e 176 6 = fR c 176 6) → STY (YNG c p) (LIV e q) c e → F e) : ck iv L h0 (d + 1) 230 [vr 176, vi n] c (qv F) := by
  obtain ⟨hpq, h1, h2, hP⟩ := hp
  obtain ⟨k1, k2, k3⟩ := hX.wk
  have h353 := hX.2.2.1
  have kq : kl c q = 6 := by rcases hpq with ⟨-, e⟩ | ⟨-, e⟩ <;> rw [e] <;> assumption
  have q176 : q ≠ 176 := by omega
  refine C230 ⟨k1, ?_⟩
  rw [fR_uR, if_pos ⟨rfl, rfl⟩, h1, h2]
  refine ⟨kq, C194 ⟨kq, k1, ?_⟩⟩
  generalize he : uI (uI (uI (uI (uI (uI (uR (uR c 176 0 q) 176 1 p) q 2 0) q 3 0) 176 2 n) 176 3 0) 176 4 (-1)) 176 5 (-9) = e
  have eI : ∀ u y, fI e u y = if y = 5 ∧ u = 176 then -9 else if y = 4 ∧ u = 176 then -1 else if y = 3 ∧ u = 176 then 0 else if y = 2 ∧ u = 176 then n else if y = 3 ∧ u = q then 0 else if y = 2 ∧ u = q then 0 else fI c u y := fun u y => by
    rw [← he]; simp only [fI_uI, fI_uR]
  have eR : ∀ u y, fR e u y = if y = 1 ∧ u = 176 then p else if y = 0 ∧ u = 176 then q else fR c u y := fun u y => by
    rw [← he]; simp only [fR_uI, fR_uR]
  have eK : ∀ u, kl e u = kl c u := fun u => by rw [← he]; rfl
  have eA : ∀ u, aR e u = aR c u := fun u => by rw [← he]; rfl
  have eN : nxt e = nxt c := by rw [← he]; rfl
  have eS : slo e = slo c := by rw [← he]; rfl
  have k176 : ky 176 11 = 11 := rfl
  have kyq : ky q 6 = 6 := by unfold ky; rw [if_neg (by omega)]
  have hx : CX stY [] c e := by
    rw [← he]
    refine CX.uI (CX.uI (CX.uI (CX.uI (CX.uI (CX.uI (CX.uR (CX.uR CX.rf (fun _ => ?_)) (fun _ => ?_)) (fun _ => ?_)) (fun _ => ?_)) (fun _ => ?_)) (fun _ => ?_)) (fun _ => ?_)) (fun _ => ?_)
    all_goals simp only [kl_uI, kl_uR, k1, kq, k176, kyq]; decide
  clear he
  refine hF e hx ⟨⟨?_, ?_⟩, by omega, fun a _ => eK a, fun a a1 a2 => by omega⟩ ?_ ⟨?_, ?_, ?_, ?_, ?_, ?_, ?_, ?_, ?_⟩ (fun u hu => ⟨⟨⟨hu.1.1.1, by rw [eN]; exact hu.1.1.2⟩, ?_, ?_⟩, fun hk => ⟨eK u, fun y _ => ⟨?_, ?_⟩⟩⟩)
  · unfold PHI; rw [eA, eA, eA, eA, eN]; exact Nat.le_refl _
  · unfold PHI; rw [eA, eA, eA, eA, eS]; exact Nat.le_refl _
  · obtain ⟨q1, q2, q3⟩ := hP
    refine ⟨fun z hz => ?_, fun r z i j hr hz i0 i1 j0 j1 he hn => ?_, fun r z i j hr hz i0 i1 j0 j1 he hn => ?_⟩
    · obtain ⟨⟨⟨c1, c2⟩, c3, c4⟩, c5, c6⟩ := q1 z hz
      refine ⟨?_, fun i i0 i1 => ?_, fun i i0 i1 => ?_⟩
      · rw [eI, eI]
        by_cases hzq : z = q
        · subst hzq
          simp [q176]
        · have z176 : z ≠ 176 := by omega
          simp [hzq, z176]
          omega
      · rw [eA, eK, eN]; exact c5 i i0 i1
      · rw [eA, eK, eN]; exact c6 i i0 i1
    · rw [eA] at he hn; rw [eA] at he
      exact q2 r z i j hr hz i0 i1 j0 j1 he hn
    · rw [eA] at he hn; rw [eA] at he
      exact q3 r z i j hr hz i0 i1 j0 j1 he hn
  · rw [eR]; simp
  · rw [eR]; simp
  · rw [eI]; simp
  · rw [eI]; simp
  · rw [eI]; simp
  · rw [eI]; simp
  · rw [eI]; simp [q176]
  · rw [eI]; simp [q176]
  · rw [eR]; simp
  · intro i i0 i1
    rw [eA]
    have : (0 : Int) ≤ i := by rw [eI] at i0; simpa [q176] using i0
    exact (hu.2 q (by omega) (by omega)).1 i this i1
  · intro i i0 i1
    rw [eA]
    have : (0 : Int) ≤ i := by rw [eI] at i0; simpa [q176] using i0
    exact (hu.2 q (by omega) (by omega)).2 i this i1
  · have u1 : u ≠ 176 := by have := hu.1.1.1; omega
    have u2 : u ≠ q := by have := hu.1.1.1; omega
    rw [eI]; simp [u1, u2]
  · have u1 : u ≠ 176 := by have := hu.1.1.1; omega
    rw [eR]; simp [u1]
/-- the result is noted -/
theorem end_c {F : Int → SC → Prop} (hX : FIX c) (hp : PLP c q p) (hR : (R.2.1 = 0 → isV R.2.2.2 = true) ∧ (R.2.1 = 0 ∨ 2 ≤ R.2.1)) (h3 : fI c 176 3 = R.1) (h4 : fI c 176 4 = if R.2.1 = 0 then -1 else R.2.1) (h5 : fI c 176 5 = R.2.2.1) (hv : R.2.1 = 0 → DV A c (YNG c q) R.2.2.2 r []) (hs : R.2.1 ≠ 0 → r = 2) (hF : ∀ e, WZP A c e p q R r → F (outE R) e) : ck iv L h0 d 231 [vr 176, vr r] c (qi F) := by
  obtain ⟨hpq, h1, h2, hP⟩ := hp
  obtain ⟨k1, k2, k3⟩ := hX.wk
  have h353 := hX.2.2.1
  have k176 : ky 176 11 = 11 := rfl
  have q176 : q ≠ 176 := by omega
  refine C231 ⟨k1, fun z => ?_, fun z => ?_⟩
  · subst z
    have g0 : R.2.1 ≠ 0 := fun g => DV_ne (hR.1 g) (hv g) rfl
    rw [if_neg g0] at h4
    have hx : CX wzY wkR c (uR c 176 6 2) := CX.uR CX.rf (fun _ => by rw [k1, k176]; decide)
    have := hF (uR c 176 6 2) ⟨⟨hx, RMP.rf⟩, ⟨hpq, by rw [fR_uR, if_neg (by omega)]; exact h1, by rw [fR_uR, if_neg (by omega)]; exact h2, PL2_eq hP rfl (fun _ _ _ => rfl) (fun _ => rfl) (fun _ => rfl)⟩, ⟨h3, h5, by rw [fR_uR, if_pos ⟨rfl, rfl⟩], by unfold outE; rw [if_neg g0]; exact h4⟩, fun g => absurd g g0, fun _ => rfl⟩
    unfold outE at this
    rw [if_neg g0] at this
    rw [h4]
    exact this
  · have g0 : R.2.1 = 0 := Classical.byContradiction fun g => z (hs g)
    have hvv := hv g0
    obtain ⟨⟨d1, d2⟩, d3, d4⟩ := DV_kind (hR.1 g0) hvv
    have r176 : r ≠ 176 := by have := d1.1.1.1; omega
    have key : ∀ z : Int, outE R = z → WZP A c (uI (uR c 176 6 r) 176 4 z) p q R r := fun z hz => by
      have hx : CX wzY wkR c (uI (uR c 176 6 r) 176 4 z) := CX.uI (CX.uR CX.rf (fun _ => by rw [k1, k176]; decide)) (fun _ => by rw [kl_uR, k1, k176]; decide)
      have eL : ∀ u, LIV c q u → LIV (uI (uR c 176 6 r) 176 4 z) q u := LIV_eq rfl (fun v => by rw [fI_uI, if_neg (fun w => q176 w.2)]; rfl) (fun _ => rfl)
      have eY := yng_up eL (fun z i hz hn => ⟨rfl, rfl⟩)
      have hst : STY (YNG c q) (YNG (uI (uR c 176 6 r) 176 4 z) q) c (uI (uR c 176 6 r) 176 4 z) := fun u hu => ⟨eY u hu, fun _ => ⟨rfl, fun y _ => ⟨by rw [fI_uI, if_neg (fun w => by have := hu.1.1.1; omega)]; rfl, by rw [fR_uI, fR_uR, if_neg (fun w => by have := hu.1.1.1; omega)]⟩⟩⟩
      refine ⟨⟨hx, RMP.rf⟩, ⟨hpq, ?_, ?_, PL2_eq hP rfl (fun z y hz => ?_) (fun _ => rfl) (fun _ => rfl)⟩, ⟨?_, ?_, ?_, ?_⟩, fun _ => ⟨⟨by have := d1.1.1.1; omega, d2⟩, DV_up hst _ _ r [] (Nat.lt_succ_self _) hvv⟩, fun g => absurd g0 g⟩
      · rw [fR_uI, fR_uR, if_neg (by omega)]; exact h1
      · rw [fR_uI, fR_uR, if_neg (by omega)]; exact h2
      · rw [fI_uI, if_neg (by omega)]; rfl
      · rw [fI_uI, if_neg (by omega)]; exact h3
      · rw [fI_uI, if_neg (by omega)]; exact h5
      · rw [fR_uI, fR_uR, if_pos ⟨rfl, rfl⟩]
      · rw [fI_uI, if_pos ⟨rfl, rfl⟩]; exact hz.symm
    refine ⟨d2, fun w => ?_, fun w => ?_⟩
    · rw [d4] at w
      have hl : hsL R.2.2.2 = false := bool_if.1 w
      have ho : outE R = 0 := by unfold outE; rw [if_pos g0, if_neg (by rw [hl]; decide)]
      have := hF _ (key 0 ho)
      rw [ho] at this
      rw [fI_uI, if_pos ⟨rfl, rfl⟩]
      exact this
    · rw [d4] at w
      have hl : hsL R.2.2.2 = true := bool_if.2 w
      have ho : outE R = 1 := by unfold outE; rw [if_pos g0, if_pos hl]
      have := hF _ (key 1 ho)
      rw [ho] at this
      rw [fI_uI, if_pos ⟨rfl, rfl⟩]
      exact this
end
end
section
/-! The worker of the desk: work and go on, as wholes (C227, C228). -/
section
variable {iv : List (Int × Int)} {L : Nat} {h0 : MH} {A A' : Int → Nat} {P : Nat → Prop} {c c0 e f : SC} {σ s s' w : SM} {t : Term} {d p q a g x y r : Nat} {n b most st kv ks kv' ks' k0 k1 k : Int} {ys : List (Nat × Nat)} {rs : List Nat} {R : RS} {X Y E V : Term} {l : List (Int × Nat)}
/-- the ground of both -/
def DGR (A : Int → Nat) (c : SC) (σ : SM) (t : Term) : Prop := (R1 A c σ t ∧ SHT σ t ∧ NB σ ∧ RSN σ t) ∧ ∀ b, b ∈ fl t → σ.2 21 b = (jdg σ t).2.2 b ∧ (σ.2 21 b = 1 → σ.2 9 b = 3)
theorem DGR.gr (h : DGR A c σ t) (hx : CX stY [] c e) (hq : q = 177 ∨ q = 180) : DWX A e σ t q := ⟨⟨h.1.1.x h.1.2.1 hx (by decide) (by decide) (by decide) (fun _ _ w => by cases w), h.1.2⟩, hq, h.2⟩
theorem dws0 (hn : 0 ≤ n ∧ n ≤ 300) (hP : PL2 c) (h : fR c 176 0 = q ∧ fR c 176 1 = p ∧ fI c 176 2 = n ∧ fI c 176 3 = 0 ∧ fI c 176 4 = -1 ∧ fI c 176 5 = -9 ∧ fI c q 2 = 0 ∧ fI c q 3 = 0 ∧ r = y) : DWS c q n 0 0 0 c := by
  obtain ⟨h1, h2, h3, h4, h5, h6, h7, h8, -⟩ := h
  exact ⟨CX.rf, hP, ⟨h1, h3, h4, h5, h6⟩, ⟨Int.le_refl _, hn.1, hn.2⟩, by omega, by omega⟩
theorem stwz : ∀ y, y ∈ stY → y ∈ wzY := by decide
theorem wkwz : ∀ y, y ∈ wkY → y ∈ wzY := by decide
/-- from where it starts to where it ends -/
theorem wz_of (hX : FIX c) (hs : CX stY [] c e ∧ RMP c e) {v : SC} (h : WZP A f v p q R r) (hw : CX wkY wkR e f ∧ RMP e f) : WZP A c v p q R r := by
  obtain ⟨⟨a1, a2⟩, a3⟩ := h
  exact ⟨⟨(hs.1.up stwz (fun _ z => by cases z)).tr ((hw.1.up wkwz (fun _ z => z)).tr a1), hs.2.tr (hw.2.tr a2)⟩, a3⟩
theorem pl_of (hX : FIX e) (hpq : (p = 177 ∧ q = 180) ∨ (p = 180 ∧ q = 177)) (h0 : fR e 176 0 = q) (h1 : fR e 176 1 = p) (hx : CX wkY wkR e f) (hP : PL2 f) : PLP f q p := ⟨by omega, by rw [(wk_i hX hx (Or.inl rfl)).2]; exact h0, by rw [(wk_i hX hx (Or.inr (Or.inl rfl))).2]; exact h1, hP⟩
theorem workall_c {F : Int → SC → Prop} (hG : DGR A c σ t) (hp : PLP c p q) (hn : 0 ≤ n ∧ n ≤ 300) (hdd : 200 ≤ d) (hF : ∀ e r, WZP A c e p q ((EV σ n 60).1 (hd t) (nulE 26) 0) r → F (outE ((EV σ n 60).1 (hd t) (nulE 26) 0)) e) : ck iv L h0 d 227 [vr 176, vr (A (hd t)), vi n] c (qi F) := by
  obtain ⟨d, rfl⟩ : ∃ k, d = k + 2 := ⟨d - 2, by omega⟩
  have hX := hG.1.1.1.1
  have hT := hG.1.2.1
  refine C227 ⟨hX.wk.1, start_c hX hp (fun e x1 r1 P1 f1 s1 => ?_)⟩
  have hXe := hX.x x1 (by decide) (by decide)
  have hpq := hp.1
  have hD := hG.gr (q := q) x1 (by omega)
  have hS : DWS e q n 0 0 0 e := dws0 (r := fR e 176 6) (y := fR c 176 6) hn P1 f1
  have top : hd t ∈ fl t := by
    have := top_mem hT
    rwa [hT.2.2.2.2.2.1]
  have bT : ∀ x, bds σ (hd t) x = -9 := fun x => by
    show bnd (σ.2 9) (σ.2 10) (σ.2 12) (σ.2 13) 70 (hd t) x = -9
    unfold bnd
    rw [if_pos hT.2.2.2.2.2.2.1]
  have cv : cov σ (hd t) (nulE 26) := fun x _ _ hx => absurd (bT x) hx
  have hRO := EV_okd (most := n) hD 60 (hd t) (nulE 26) 0 top (nulE_is 26) (nulE_VG 26) cv hn.1
  refine ⟨hXe.wk.1, ck_mono (WCD_all hD 60 (Nat.le_refl _) (hd t) 0 (nulE 26) e 2 [] top (nulE_is 26) (nulE_VG 26) cv rfl (DV_nul 26) hS) (by omega) (fun r f h => ?_)⟩
  have hxf := h.1.1
  have hXf := hXe.x hxf (by decide) (by decide)
  refine ⟨hXf.wk.1, end_c (p := p) (q := q) hXf (pl_of hXe hpq f1.1 f1.2.1 hxf h.2.1.2) ⟨fun g => (hRO.2.2 g).2.1, by have := hRO.2.1; omega⟩ h.2.2.1.1 h.2.2.1.2.1 h.2.2.1.2.2 h.2.2.2.2.1 h.2.2.2.2.2 (fun e' h' => hF e' r (wz_of hX ⟨x1, r1⟩ h' ⟨hxf, h.1.2⟩))⟩
theorem goonall_c {F : Int → SC → Prop} (hG : DGR A c σ t) (hp : PLP c p q) (hn : 0 ≤ n ∧ n ≤ 300) (hdd : 200 ≤ d) (hFN : FN σ t) (hL : FLK A c σ t) (hV : isV V = true ∧ VO σ t V) (hv : DV A c (YNG c p) V (fR c 176 6) []) (hF : ∀ e r, WZP A c e p q ((EV σ n 60).2 V 0) r → F (outE ((EV σ n 60).2 V 0)) e) : ck iv L h0 d 228 [vr 176, vi n] c (qi F) := by
  obtain ⟨d, rfl⟩ : ∃ k, d = k + 2 := ⟨d - 2, by omega⟩
  have hX := hG.1.1.1.1
  have hT := hG.1.2.1
  refine C228 ⟨hX.wk.1, start_c hX hp (fun e x1 r1 P1 f1 s1 => ?_)⟩
  have hXe := hX.x x1 (by decide) (by decide)
  have hpq := hp.1
  have hD := hG.gr (q := q) x1 (by omega)
  have hS : DWS e q n 0 0 0 e := dws0 (r := fR e 176 6) (y := fR c 176 6) hn P1 f1
  have hND := hG.1.1.1.2.1
  have h12 : ∀ b, 0 ≤ b → b < σ.1 8 → fR e (A b) 12 = fR c (A b) 12 := fun b b0 b1 => by
    obtain ⟨⟨m1, -⟩, m9, m10⟩ := hND.2 b b0 b1
    exact x1.r (by omega) (by rw [ky5 m10, m1]; decide)
  have hLe : FLK A e σ t := ⟨fun b b0 b1 h => by rw [h12 b b0 b1]; exact hL.1 b b0 b1 h, hL.2.1, fun b hb => by rw [h12 b (hT.lt hb).1 (hT.lt hb).2.1]; exact hL.2.2 b hb⟩
  have hRO := EV_okO (most := n) hD hFN 60 V 0 hV.1 hV.2 hn.1
  have hve := DV_up s1 _ V _ [] (Nat.lt_succ_self _) hv
  refine ⟨hXe.wk.1, ck_mono (OCD_all hD hFN hLe 60 (Nat.le_refl _) V 0 e _ hV.1 hV.2 hve hS) (by omega) (fun r f h => ?_)⟩
  have hxf := h.1.1
  have hXf := hXe.x hxf (by decide) (by decide)
  refine ⟨hXf.wk.1, end_c (p := p) (q := q) hXf (pl_of hXe hpq f1.1 f1.2.1 hxf h.2.1.2) ⟨fun g => (hRO.2.2 g).2.1, by have := hRO.2.1; omega⟩ h.2.2.1.1 h.2.2.1.2.1 h.2.2.1.2.2 h.2.2.2.2.1 h.2.2.2.2.2 (fun e' h' => hF e' r (wz_of hX ⟨x1, r1⟩ h' ⟨hxf, h.1.2⟩))⟩
end
end
section
/-! What of works stays over other changes of the desk. -/
section
variable {iv : List (Int × Int)} {L : Nat} {h0 : MH} {A A' : Int → Nat} {P Q : Nat → Prop} {c c0 e f : SC} {σ s s' : SM} {t : Term} {d p q a g x y r w : Nat} {n b : Int} {ys : List (Nat × Nat)} {rs : List Nat} {R : RS} {X Y E V : Term} {l : List (Int × Nat)} {o : List Int × List Term}
/-- keys and rows of the pools are not among these -/
def NPY (ys : List (Nat × Nat)) (rs : List Nat) : Prop := (∀ y, (10, y) ∉ ys ∧ (7, y) ∉ ys) ∧ ((6, 2) ∉ ys ∧ (6, 3) ∉ ys) ∧ 178 ∉ rs ∧ 179 ∉ rs ∧ 181 ∉ rs ∧ 182 ∉ rs
theorem pool_row (hX : FIX c) (hx : CX ys rs c e) (h : NPY ys rs) (hp : p = 177 ∨ p = 180) : aR e (p + 1) = aR c (p + 1) ∧ aR e (p + 2) = aR c (p + 2) ∧ fI e p 2 = fI c p 2 ∧ fI e p 3 = fI c p 3 := by
  obtain ⟨k1, -⟩ := hX.pl hp
  have h353 := hX.2.2.1
  have hr1 : rk (p + 1) (kl c (p + 1)) ∉ rs := by unfold rk; rw [if_pos (by omega)]; rcases hp with rfl | rfl; exact h.2.2.1; exact h.2.2.2.2.1
  have hr2 : rk (p + 2) (kl c (p + 2)) ∉ rs := by unfold rk; rw [if_pos (by omega)]; rcases hp with rfl | rfl; exact h.2.2.2.1; exact h.2.2.2.2.2
  have hk : ky p (kl c p) = 6 := by unfold ky; rw [if_neg (by omega), k1]
  exact ⟨hx.ar (by omega) hr1, hx.ar (by omega) hr2, hx.i (by omega) (by rw [hk]; exact h.2.1.1), hx.i (by omega) (by rw [hk]; exact h.2.1.2)⟩
theorem liv_cx (hX : FIX c) (hx : CX ys rs c e) (h : NPY ys rs) (hp : p = 177 ∨ p = 180) (u : Nat) (hu : LIV c p u) : LIV e p u := by
  obtain ⟨r1, r2, r3, r4⟩ := pool_row hX hx h hp
  refine ⟨⟨hu.1.1, Nat.lt_of_lt_of_le hu.1.2 hx.n⟩, fun i i0 i1 => ?_, fun i i0 i1 => ?_⟩
  · rw [r1]; exact hu.2.1 i (by rw [r3] at i0; exact i0) i1
  · rw [r2]; exact hu.2.2 i (by rw [r4] at i0; exact i0) i1
theorem yng_cx (hX : FIX c) (hx : CX ys rs c e) (h : NPY ys rs) (hp : p = 177 ∨ p = 180) : ∀ u, YNG c p u → YNG e p u :=
  yng_up (liv_cx hX hx h hp) (fun q i hq hn => ⟨by rw [(pool_row hX hx h hq).1], by rw [(pool_row hX hx h hq).2.1]⟩)
theorem sty_cx (hX : FIX c) (hx : CX ys rs c e) (h : NPY ys rs) (hp : p = 177 ∨ p = 180) : STY (YNG c p) (YNG e p) c e := fun u hu => ⟨yng_cx hX hx h hp u hu, fun hk => by
  have hl := hu.1.1.2
  have h3 := hu.1.1.1
  have hky : ky u (kl c u) = kl c u := by unfold ky; rw [if_neg (by omega)]
  have hn : ∀ y, (ky u (kl c u), y) ∉ ys := fun y => by
    rw [hky]
    rcases hk with k | k <;> rw [k]
    · exact (h.1 y).1
    · exact (h.1 y).2
  exact ⟨hx.k hl, fun y _ => ⟨hx.i hl (hn y), hx.r hl (hn y)⟩⟩⟩
theorem PL2_cx (hX : FIX c) (hx : CX ys rs c e) (h : NPY ys rs) (hP : PL2 c) : PL2 e := by
  obtain ⟨q1, q2, q3⟩ := hP
  refine ⟨fun q hq => ?_, fun r q i j hr hq i0 i1 j0 j1 he hn => ?_, fun r q i j hr hq i0 i1 j0 j1 he hn => ?_⟩
  · obtain ⟨r1, r2, r3, r4⟩ := pool_row hX hx h hq
    obtain ⟨c1, c5, c6⟩ := q1 q hq
    have hn := hx.n
    refine ⟨by rw [r3, r4]; exact c1, fun i i0 i1 => ?_, fun i i0 i1 => ?_⟩
    · rw [r1]; exact (c5 i i0 i1).imp id (fun z => ⟨z.1, by omega, by rw [hx.k z.2.1]; exact z.2.2⟩)
    · rw [r2]; exact (c6 i i0 i1).imp id (fun z => ⟨z.1, by omega, by rw [hx.k z.2.1]; exact z.2.2⟩)
  · rw [(pool_row hX hx h hr).1] at he hn; rw [(pool_row hX hx h hq).1] at he
    exact q2 r q i j hr hq i0 i1 j0 j1 he hn
  · rw [(pool_row hX hx h hr).2.1] at he hn; rw [(pool_row hX hx h hq).2.1] at he
    exact q3 r q i j hr hq i0 i1 j0 j1 he hn
theorem PLP_cx (hX : FIX c) (hx : CX ys rs c e) (h : NPY ys rs) (h11 : (11, 0) ∉ ys ∧ (11, 1) ∉ ys) (hP : PLP c p q) : PLP e p q := by
  obtain ⟨a1, a2, a3, a4⟩ := hP
  have h353 := hX.2.2.1
  have hk : ky 176 (kl c 176) = 11 := by rw [hX.wk.1]; rfl
  exact ⟨a1, (hx.r (by omega) (by rw [hk]; exact h11.1)).trans a2, (hx.r (by omega) (by rw [hk]; exact h11.2)).trans a3, PL2_cx hX hx h a4⟩
theorem PHI_cx (hX : FIX c) (hx : CX ys rs c e) (h : NPY ys rs) : PHI e = PHI c := by
  obtain ⟨r1, r2, -⟩ := pool_row hX hx h (Or.inl rfl)
  obtain ⟨r3, r4, -⟩ := pool_row hX hx h (Or.inr rfl)
  unfold PHI
  rw [r1, r2, r3, r4]
theorem RMP_cx (hX : FIX c) (hx : CX ys rs c e) (h : NPY ys rs) (hr : RMk 0 0 c e) : RMP c e := by
  have h1 := PHI_cx hX hx h
  have h2 := hx.n
  obtain ⟨r1, r2⟩ := hr
  exact ⟨⟨by omega, by omega⟩, h2, fun a ha => hx.k ha, fun a a1 a2 => by omega⟩
/-- what a writer does, as a change -/
theorem WX.cx (hw : kl c w = 12) (hl : w < 235) (h : WX w c e) : CX [(12, 1), (12, 3), (12, 6)] [w + 1, w + 2, w + 3, w + 4] c e := by
  obtain ⟨⟨a1, a2⟩, a3, a4, a5, a6⟩ := h
  refine ⟨by omega, fun a _ => a3 a, fun a y ha hy => ⟨a4 a y (fun z => hy ?_), a5 a y⟩, fun a ha hr => a6 a (fun z => hr ?_)⟩
  · rw [z.1, hw]
    have : ky w 12 = 12 := by unfold ky; rw [if_neg (by omega)]
    rw [this]
    rcases z.2 with e | e | e <;> rw [e] <;> decide
  · unfold rk
    rw [if_pos (by omega)]
    have : a = w + 1 ∨ a = w + 2 ∨ a = w + 3 ∨ a = w + 4 := by omega
    rcases this with e | e | e | e <;> rw [e] <;> simp
theorem npy_w (hw : w = 183 ∨ w = 188) : NPY [(12, 1), (12, 3), (12, 6)] [w + 1, w + 2, w + 3, w + 4] := by
  refine ⟨fun y => ⟨by simp, by simp⟩, ⟨by decide, by decide⟩, ?_⟩
  rcases hw with rfl | rfl <;> decide
theorem WX.rm (h : WX w c e) (hw : w = 183 ∨ w = 188) : RMP c e := by
  obtain ⟨⟨a1, a2⟩, a3, a4, a5, a6⟩ := h
  have : PHI e = PHI c := by unfold PHI; rw [(a6 178 (by omega)).2, (a6 181 (by omega)).2, (a6 179 (by omega)).2, (a6 182 (by omega)).2]
  exact ⟨⟨by omega, by omega⟩, by omega, fun a _ => (a3 a).1, fun a a1 a2 => by omega⟩
/-- a value over new births -/
theorem DV_EXT (hE : EXT A A' (s.1 8)) : ∀ (m : Nat) (V : Term) (a : Nat) (l : List (Int × Nat)), SizeOf.sizeOf V < m → VB s V → DV A c P V a l → DV A' c P V a l := by
  intro m
  induction m with
  | zero => intro V a l h; omega
  | succ m ih =>
    intro V a l hm hb hv
    cases V with
    | null => exact trivial
    | int z => exact hv
    | arg z => exact hv
    | index z => exact hv
    | mul r y =>
      obtain ⟨h1, h2, h3⟩ := hv
      have hb : VB s r ∧ (y = .null ∨ (isV y = true ∧ VB s y)) := hb
      simp only [Term.mul.sizeOf_spec] at hm
      exact ⟨ih r _ _ (by omega) hb.1 h1, h2, fun q => ih y _ _ (by omega) (hb.2.resolve_left q).2 (h3 q)⟩
    | add x y =>
      obtain ⟨h1, h2, h3, h4⟩ := hv
      simp only [Term.add.sizeOf_spec] at hm
      exact ⟨h1, h2, ih x _ _ (by omega) hb.1.2 h3, ih y _ _ (by omega) hb.2.2 h4⟩
    | length x =>
      obtain ⟨h1, h2, h3⟩ := hv
      simp only [Term.length.sizeOf_spec] at hm
      exact ⟨h1, h2, ih x _ _ (by omega) hb.2 h3⟩
    | sub b E =>
      cases b with
      | index b =>
        obtain ⟨h1, h2, h3, l', h4, h5⟩ := hv
        simp only [Term.sub.sizeOf_spec] at hm
        exact ⟨h1, h2.trans (hE b hb.1).symm, h3, l', h4, ih E _ _ (by omega) hb.2.2 h5⟩
      | _ => exact hv.elim
    | div b E =>
      cases b with
      | index b =>
        obtain ⟨h1, h2, h3, l', h4, h5⟩ := hv
        simp only [Term.div.sizeOf_spec] at hm
        exact ⟨h1, h2.trans (hE b hb.1).symm, h3, l', h4, ih E _ _ (by omega) hb.2.2 h5⟩
      | _ => exact hv.elim
    | rem b z =>
      cases b with
      | index b =>
        cases z with
        | elem x z =>
          cases z with
          | elem y E =>
            obtain ⟨h1, h2, h3, h4, h5, h6, h7⟩ := hv
            obtain ⟨⟨b1, b2, b3⟩, b4, b5⟩ := hb
            simp only [Term.rem.sizeOf_spec, Term.elem.sizeOf_spec] at hm
            exact ⟨h1, h2.trans (hE b b1).symm, h3, ih x _ _ (by omega) b3 h4, h5, fun q => ih y _ _ (by omega) (b4.resolve_right q).2 (h6 q), h7.imp id (fun q => ⟨q.1, q.2.choose, q.2.choose_spec.1, ih E _ _ (by omega) (b5.resolve_right q.1).2 q.2.choose_spec.2⟩)⟩
          | _ => exact hv.elim
        | _ => exact hv.elim
      | _ => exact hv.elim
    | _ => exact hv.elim
end
end
section
/-! The desk: behind a working, what is noted and written (C53). -/
def nqY : List (Nat × Nat) := [(1, 15), (5, 11), (12, 1), (12, 3), (12, 6)]
def nqR : List Nat := [184, 185, 186, 187]
/-- a value held, with what is written of it -/
def HLD (A : Int → Nat) (c : SC) (s : SM) (p : Nat) (V : Term) (r : Nat) : Prop := (r ≠ 2 ∧ kl c r = 10) ∧ (isV V = true ∧ VB s V) ∧ DV A c (YNG c p) V r []
section
variable {iv : List (Int × Int)} {L : Nat} {h0 : MH} {A A' : Int → Nat} {P Q : Nat → Prop} {c c0 e f : SC} {σ s s' : SM} {t : Term} {d p q a g x y r w : Nat} {n b z : Int} {ys : List (Nat × Nat)} {rs : List Nat} {R : RS} {X Y E V : Term} {l : List (Int × Nat)} {o : List Int × List Term}
theorem FIX.wt (h : FIX c) : kl c 64 = 1 ∧ fR c 64 1 = 70 ∧ fR c 64 3 = 176 ∧ fR c 64 4 = 183 ∧ fR c 64 5 = 188 ∧ kl c 70 = 8 ∧ kl c 176 = 11 ∧ kl c 183 = 12 ∧ kl c 188 = 12 := by
  simp only [h.1]; exact ⟨trivial, trivial, trivial, trivial, trivial, trivial, trivial, trivial, trivial⟩
theorem NDW_of (h : R1 A c s t) (hT : SHT s t) : NDW A c s := ⟨fun b b0 b1 => by
  obtain ⟨⟨m1, m2, m3, m4, m5, -⟩, -⟩ := h.1.2.1.2 b b0 b1
  exact ⟨m1, m4, m5⟩, by have := hT.2.2.2.2.1; omega⟩
theorem WO_mono (hPQ : ∀ u, P u → Q u) (h : WO A P c w o) : WO A Q c w o := ⟨h.1, h.2.1, fun k V hV => ⟨DV_up (P := P) (Q := Q) (fun a ha => ⟨hPQ a ha, fun _ => ⟨rfl, fun _ _ => ⟨rfl, rfl⟩⟩⟩) _ V _ [] (Nat.lt_succ_self _) (h.2.2 k V hV).1, (h.2.2 k V hV).2⟩⟩
theorem HLD.kp (hX : FIX c) (hx : CX ys rs c e) (h : NPY ys rs) (hp : p = 177 ∨ p = 180) (hh : HLD A c s p V r) : HLD A e s p V r := by
  obtain ⟨⟨h1, h2⟩, h3, h4⟩ := hh
  have hk := (DV_kind h3.1 h4).1
  have hd := DV_up (sty_cx hX hx h hp) _ V r [] (Nat.lt_succ_self _) h4
  exact ⟨⟨h1, (DV_kind h3.1 hd).1.2⟩, h3, hd⟩
theorem yng2 {u : Nat} (h : YNG c p u) : u ≠ 2 := by have := h.1.1.1; omega
theorem note_c {F : Int → SC → Prop} (h1 : R1 A c s t) (hT : SHT s t) (hp : PLP c p q) (h6 : fR c 176 6 = r) (hh : r ≠ 2 → HLD A c s p V r) (hF : ∀ e, CX nqY nqR c e → RMP c e → R1 A e s t → PLP e p q → (r ≠ 2 → HLD A e s p V r ∧ WO A (YNG e p) e 183 (wrt s V)) → fI e 64 15 = 0 → (∀ x, x ∈ fl t → fI e (A x) 11 = (jdg s t).2.2 x) → (∀ a, (∀ x, x ∈ fl t → a ≠ A x) → fI e a 11 = fI c a 11) → F z e) : ck iv L h0 (d + 6) 53 [vr 64, vi z] c (qi F) := by
  have hX := h1.1.1
  have h353 := hX.2.2.1
  obtain ⟨w1, w2, w3, w4, w5, w6, w7, w8, w9⟩ := hX.wt
  have hp' : p = 177 ∨ p = 180 := by have := hp.1; omega
  have x0 : CX [(1, 15)] [] c (uI c 64 15 0) := CX.rf.uI (fun _ => by rw [w1]; decide)
  have r0 := h1.x hT x0 (by decide) (by decide) (by decide) (fun _ _ q => by cases q)
  refine C53 ⟨w1, by rw [w2]; exact w6, ?_⟩
  rw [w2]
  refine thens_c r0 hT (fun e r1 x1 m1 th ot => ?_)
  have n0 : NPY [(1, 15), (5, 11)] [] := ⟨fun y => ⟨by simp, by simp⟩, ⟨by decide, by decide⟩, by decide, by decide, by decide, by decide⟩
  have xe : CX [(1, 15), (5, 11)] [] c e := (x0.up (by decide) (fun _ q => q)).tr (x1.up (by decide) (fun _ q => q))
  have hXe := r1.1.1
  obtain ⟨v1, v2, v3, v4, v5, v6, v7, v8, v9⟩ := hXe.wt
  have hk : ky 176 (kl c 176) = 11 := by rw [w7]; rfl
  have e6 : fR e 176 6 = r := (xe.r (by omega) (by rw [hk]; decide)).trans h6
  have e15 : fI e 64 15 = 0 := by
    rw [ot 64 15 (Or.inl (by decide)), fI_uI, if_pos ⟨rfl, rfl⟩]
  have me : RMP c e := RMP_cx hX xe n0 ⟨m1.1, m1.2⟩
  have oth : ∀ a, (∀ x, x ∈ fl t → a ≠ A x) → fI e a 11 = fI c a 11 := fun a ha => by rw [ot a 11 (Or.inr ha), fI_uI, if_neg (by omega)]
  rw [v3, v4, e6]
  refine ⟨v1, v7, fun z => ?_, fun z => ⟨v8, ?_⟩⟩
  · exact hF e (xe.up (by decide) (fun _ q => by cases q)) me r1 (PLP_cx hX xe n0 ⟨by decide, by decide⟩ hp) (fun w => absurd z w) e15 th oth
  · have he := HLD.kp hX xe n0 hp' (hh z)
    refine written_c (fun a ha => yng2 ha) (hXe.wrc.1) (NDW_of r1 hT) he.2.1 he.2.2 (fun f hx ho => ?_)
    have xf := hx.cx v8 (by decide)
    have nw := npy_w (w := 183) (Or.inl rfl)
    have r2 := r1.x hT xf (by decide) (by decide) (by decide) (by decide)
    refine hF f ((xe.up (by decide) (fun _ q => by cases q)).tr (xf.up (by decide) (fun a ha => ha))) (me.tr (hx.rm (Or.inl rfl))) r2 (PLP_cx hXe xf nw ⟨by decide, by decide⟩ (PLP_cx hX xe n0 ⟨by decide, by decide⟩ hp)) (fun _ => ⟨HLD.kp hXe xf nw hp' he, WO_mono (yng_cx hXe xf nw hp') ho⟩) ?_ (fun x hx' => ?_) (fun a ha => by rw [hx.2.2.1 a 11 (fun q => by omega)]; exact oth a ha)
    · rw [hx.2.2.1 64 15 (fun q => by omega)]; exact e15
    · have hb := hT.lt hx'
      obtain ⟨-, -, n10⟩ := r1.1.2.1.2 x hb.1 hb.2.1
      rw [hx.2.2.1 (A x) 11 (fun q => by omega)]
      exact th x hx'
end
end
section
/-! The desk's calls work and resume (C24, C25). -/
def wqY : List (Nat × Nat) := wzY ++ nqY
def wqR : List Nat := wkR ++ nqR
/-- behind work and resume -/
def WKP (A : Int → Nat) (c e : SC) (σ : SM) (t : Term) (p q : Nat) (R : RS) (r : Nat) : Prop := (CX wqY wqR c e ∧ RMP c e) ∧ (R1 A e σ t ∧ PLP e q p) ∧ (fI e 176 3 = R.1 ∧ fI e 176 5 = R.2.2.1 ∧ fR e 176 6 = r ∧ fI e 176 4 = outE R) ∧ ((R.2.1 = 0 → r ≠ 2 ∧ HLD A e σ q R.2.2.2 r ∧ WO A (YNG e q) e 183 (wrt σ R.2.2.2)) ∧ (R.2.1 ≠ 0 → r = 2)) ∧ fI e 64 15 = 0 ∧ (∀ x, x ∈ fl t → fI e (A x) 11 = (jdg σ t).2.2 x) ∧ ∀ a, a < nxt c → (∀ x, x ∈ fl t → a ≠ A x) → fI e a 11 = fI c a 11
section
variable {iv : List (Int × Int)} {L : Nat} {h0 : MH} {A A' : Int → Nat} {P Q : Nat → Prop} {c c0 e f : SC} {σ s s' : SM} {t : Term} {d p q a g x y r w : Nat} {n b z : Int} {ys : List (Nat × Nat)} {rs : List Nat} {R : RS} {X Y E V : Term} {l : List (Int × Nat)} {o : List Int × List Term}
theorem dlim_c {F : Int → SC → Prop} (h1 : 0 ≤ n ∧ n ≤ 300 → F 1 c) (h2 : ¬ (0 ≤ n ∧ n ≤ 300) → F 0 c) : ck iv L h0 d 42 [vi n] c (qi F) :=
  C42 ⟨fun q => h2 (by omega), fun q => ⟨fun q2 => h2 (by omega), fun q2 => h1 ⟨q, q2⟩⟩⟩
/-- what comes behind the worker -/
theorem wkp_c {F : Int → SC → Prop} (h1 : R1 A c σ t) (hT : SHT σ t) (hw : WZP A c e p q R r) (hR : (R.2.1 = 0 → isV R.2.2.2 = true ∧ VB σ R.2.2.2)) (hF : ∀ f, WKP A c f σ t p q R r → F z f) : ck iv L h0 (d + 6) 53 [vr 64, vi z] e (qi F) := by
  obtain ⟨⟨w1, w2⟩, w3, w4, w5, w6⟩ := hw
  have hX := h1.1.1
  have r1 := h1.x hT w1 (by decide) (by decide) (by decide) (by decide)
  have hXe := r1.1.1
  have rr : r ≠ 2 → R.2.1 = 0 := fun q => Classical.byContradiction fun g => q (w6 g)
  refine note_c (V := R.2.2.2) r1 hT w3 w4.2.2.1 (fun q => ⟨(w5 (rr q)).1, hR (rr q), (w5 (rr q)).2⟩) (fun f x1 m1 r2 p2 v2 e15 th oth => hF f ⟨⟨(w1.up (fun y hy => List.mem_append_left _ hy) (fun y hy => List.mem_append_left _ hy)).tr (x1.up (fun y hy => List.mem_append_right _ hy) (fun y hy => List.mem_append_right _ hy)), w2.tr m1⟩, ⟨r2, p2⟩, ?_, ⟨fun g => ⟨(w5 g).1.1, v2 (w5 g).1.1⟩, w6⟩, e15, th, fun a ha hn => (oth a hn).trans (w1.i ha (by unfold wzY wkY; simp))⟩)
  have h353 := hXe.2.2.1
  have hk : ky 176 (kl e 176) = 11 := by rw [hXe.wk.1]; rfl
  exact ⟨(x1.i (by omega) (by rw [hk]; decide)).trans w4.1, (x1.i (by omega) (by rw [hk]; decide)).trans w4.2.1, (x1.r (by omega) (by rw [hk]; decide)).trans w4.2.2.1, (x1.i (by omega) (by rw [hk]; decide)).trans w4.2.2.2⟩
theorem dwork_no {F : Int → SC → Prop} (hn : ¬ (0 ≤ n ∧ n ≤ 300)) (hF : F (-1) c) : ck iv L h0 (d + 1) 24 [vr 64, vi n] c (qi F) :=
  C24 (dlim_c (fun w => absurd w hn) (fun _ => ⟨fun w => absurd rfl w, fun _ => hF⟩))
theorem dwork_c {F : Int → SC → Prop} (hG : DGR A c σ t) (hp : PLP c p q) (hn : 0 ≤ n ∧ n ≤ 300) (hdd : 210 ≤ d) (hF : ∀ e r, WKP A c e σ t p q ((EV σ n 60).1 (hd t) (nulE 26) 0) r → F (outE ((EV σ n 60).1 (hd t) (nulE 26) 0)) e) : ck iv L h0 d 24 [vr 64, vi n] c (qi F) := by
  obtain ⟨d, rfl⟩ : ∃ k, d = k + 7 := ⟨d - 7, by omega⟩
  have hT := hG.1.2.1
  have hX := hG.1.1.1.1
  obtain ⟨w1, w2, w3, w4, w5, w6, w7, w8, w9⟩ := hX.wt
  have h70 : fR c 70 1 = A (hd t) := hG.1.1.1.2.2.1.2
  have top : hd t ∈ fl t := by
    have := top_mem hT
    rwa [hT.2.2.2.2.2.1]
  have bT : ∀ x, bds σ (hd t) x = -9 := fun x => by
    show bnd (σ.2 9) (σ.2 10) (σ.2 12) (σ.2 13) 70 (hd t) x = -9
    unfold bnd
    rw [if_pos hT.2.2.2.2.2.2.1]
  have cv : cov σ (hd t) (nulE 26) := fun x _ _ hx => absurd (bT x) hx
  have hRO := evw_okw hT hG.1.2.2.1 hG.1.2.2.2 n 60 (hd t) (nulE 26) 0 top (nulE_is 26) (nulE_VG 26) cv hn.1
  refine C24 (dlim_c (fun _ => ⟨fun _ => ⟨w1, by rw [w2]; exact w6, by rw [w3]; exact w7, ?_⟩, fun w => by cases w⟩) (fun w => absurd hn w))
  rw [w2, w3, h70]
  refine workall_c hG hp hn (by omega) (fun e r h => ⟨(hG.1.1.x hT h.1.1 (by decide) (by decide) (by decide) (by decide)).1.1.wt.1, ?_⟩)
  exact wkp_c hG.1.1 hT h (fun g => ⟨(hRO.2.2 g).2.1, VB_g hT _ _ (Nat.lt_succ_self _) (hRO.2.2 g).2.2⟩) (fun f hf => hF f r hf)
theorem dres_no {F : Int → SC → Prop} (hn : ¬ (0 ≤ n ∧ n ≤ 300)) (hF : F (-1) c) : ck iv L h0 (d + 1) 25 [vr 64, vi n] c (qi F) :=
  C25 (dlim_c (fun w => absurd w hn) (fun _ => ⟨fun w => absurd rfl w, fun _ => hF⟩))
theorem dres_4 {F : Int → SC → Prop} (h1 : R1 A c s t) (hT : SHT s t) (hn : 0 ≤ n ∧ n ≤ 300) (h4 : fR c 176 6 = 2 ∨ fI c 64 15 ≠ 0 ∨ thn A c s t ≠ 0) (hF : F (-4) c) : ck iv L h0 (d + 1) 25 [vr 64, vi n] c (qi F) := by
  obtain ⟨w1, w2, w3, w4, w5, w6, w7, w8, w9⟩ := h1.1.1.wt
  refine C25 (dlim_c (fun _ => ⟨fun _ => ⟨w1, by rw [w3]; exact w7, ?_⟩, fun w => by cases w⟩) (fun w => absurd hn w))
  rw [w2, w3]
  refine ⟨fun _ => hF, fun q1 => ⟨fun _ => hF, fun q2 => ⟨w6, then_c h1 hT ⟨fun q3 => ?_, fun _ => hF⟩⟩⟩⟩
  rcases h4 with h | h | h
  · exact absurd h q1
  · exact absurd q2 h
  · exact absurd q3 h
theorem dres_c {F : Int → SC → Prop} (hG : DGR A c σ t) (hp : PLP c p q) (hn : 0 ≤ n ∧ n ≤ 300) (hdd : 210 ≤ d) (hFN : FN σ t) (hL : FLK A c σ t) (h15 : fI c 64 15 = 0) (hth : thn A c σ t = 0) (hr : fR c 176 6 = x ∧ x ≠ 2) (hV : isV V = true ∧ VO σ t V) (hv : DV A c (YNG c p) V x []) (hF : ∀ e r, WKP A c e σ t p q ((EV σ n 60).2 V 0) r → F (outE ((EV σ n 60).2 V 0)) e) : ck iv L h0 d 25 [vr 64, vi n] c (qi F) := by
  obtain ⟨d, rfl⟩ : ∃ k, d = k + 7 := ⟨d - 7, by omega⟩
  have hT := hG.1.2.1
  have hX := hG.1.1.1.1
  obtain ⟨w1, w2, w3, w4, w5, w6, w7, w8, w9⟩ := hX.wt
  have hRO := (evw_ok hT hG.1.2.2.1 hG.1.2.2.2 hFN n 60).2 V 0 hV.1 hV.2 hn.1
  refine C25 (dlim_c (fun _ => ⟨fun _ => ⟨w1, by rw [w3]; exact w7, ?_⟩, fun w => by cases w⟩) (fun w => absurd hn w))
  rw [w2, w3]
  refine ⟨fun w => absurd w (by rw [hr.1]; exact hr.2), fun _ => ⟨fun w => absurd h15 w, fun _ => ⟨w6, then_c hG.1.1 hT ⟨fun _ => ⟨w1, by rw [w3]; exact w7, ?_⟩, fun w => absurd hth w⟩⟩⟩⟩
  rw [w3]
  refine goonall_c hG hp hn (by omega) hFN hL hV (by rw [hr.1]; exact hv) (fun e r h => ⟨(hG.1.1.x hT h.1.1 (by decide) (by decide) (by decide) (by decide)).1.1.wt.1, ?_⟩)
  exact wkp_c hG.1.1 hT h (fun g => ⟨(hRO.2.2 g).2.1, VB_g hT _ _ (Nat.lt_succ_self _) (hRO.2.2 g).2.2⟩) (fun f hf => hF f r hf)
end
end
section
/-! What the desk tells of its last working (C26 to C30). -/
/-- a hole written, of births so far -/
def HLB (s : SM) (X : Term) : Prop := ∃ (b : Nat) (E : Term), X = .div (.index b) E ∧ isE 26 E ∧ VB s E ∧ (b : Int) < s.1 8
theorem outT_hb {s : SM} {so : Int → Int} : ∀ (n : Nat) (V : Term), SizeOf.sizeOf V < n → isV V = true → VB s V → ∀ (o : List Int × List Term), (∀ X, X ∈ o.2 → HLB s X) → ∀ X, X ∈ (outT so V o).2 → HLB s X := by
  intro n
  induction n with
  | zero => intro V hn; omega
  | succ n ih =>
    intro V hn hv hV o ho
    cases V with
    | int z => exact gd_h (x := pN z.toInt o) ho ho
    | arg z => exact gd_h (x := pW (if z = 1 then 19 else 20) o) ho ho
    | index x => exact gd_h (x := pB (97 + x) (pB 33 o)) ho ho
    | sub x E =>
      cases x with
      | index x => exact gd_h (x := pN x (pB 100 o)) ho ho
      | _ => cases hv
    | add A B =>
      refine gd_h (x := pB 93 (outT so B (pB 32 (outT so A (pB 91 o))))) ho ?_
      exact ih B (by simp at hn; omega) hV.2.1 hV.2.2 _ (ih A (by simp at hn; omega) hV.1.1 hV.1.2 _ ho)
    | div x E =>
      cases x with
      | index x =>
        refine gd_h (x := pN x (pB 63 (o.1, o.2 ++ [.div (.index x) E]))) ho (fun X hX => ?_)
        rcases List.mem_append.mp hX with hX | hX
        · exact ho X hX
        · rw [List.mem_singleton.mp hX]
          exact ⟨x, E, rfl, hV.2.1, hV.2.2, hV.1⟩
      | _ => cases hv
    | length A =>
      refine gd_h (x := pB 125 (outT so A (pB 123 o))) ho ?_
      exact ih A (by simp at hn; omega) hV.1 hV.2 _ ho
    | rem x q =>
      cases x with
      | index x =>
        cases q with
        | elem A q =>
          cases q with
          | elem B E =>
            obtain ⟨⟨b1, a1, a2⟩, hB, -⟩ := hV
            have r1 : ∀ X, X ∈ (outT so A (pB 32 (pW (wrd (so x)) (pB 40 o)))).2 → HLB s X := ih A (by simp at hn; omega) a1 a2 _ ho
            have z : ∀ (o' : List Int × List Term), (∀ X, X ∈ o'.2 → HLB s X) → ∀ X, X ∈ (outZ (so x) x o').2 → HLB s X := fun o' h' => by
              unfold outZ
              split <;> exact h'
            refine gd_h (x := outZ (so x) x (if isV B = true then outT so B (pB 32 (outT so A (pB 32 (pW (wrd (so x)) (pB 40 o))))) else outT so A (pB 32 (pW (wrd (so x)) (pB 40 o))))) ho (z _ ?_)
            split
            · next hvB =>
              rcases hB with hB | hB
              · exact ih B (by simp at hn; omega) hB.1 hB.2 _ r1
              · rw [hB] at hvB; cases hvB
            · exact r1
          | _ => cases hv
        | _ => cases hv
      | _ => cases hv
    | _ => cases hv
theorem wrt_hb {s : SM} {V : Term} (hV : isV V = true ∧ VB s V) : ∀ X, X ∈ (wrt s V).2 → HLB s X := outT_hb (SizeOf.sizeOf V + 1) V (Nat.lt_succ_self _) hV.1 hV.2 _ (fun X hX => by cases hX)
section
variable {iv : List (Int × Int)} {L : Nat} {h0 : MH} {A A' : Int → Nat} {P Q : Nat → Prop} {c c0 e f : SC} {σ s s' : SM} {t : Term} {d p q a g y r w : Nat} {n b z x i k : Int} {ys : List (Nat × Nat)} {rs : List Nat} {R : RS} {X Y E V : Term} {l : List (Int × Nat)} {o : List Int × List Term}
theorem byte_c {F : Int → SC → Prop} (hw : WRC c w) (ho : WO A P c w o) (hF : F (atB o.1 k) c) : ck iv L h0 d 246 [vr w, vi k] c (qi F) := by
  obtain ⟨⟨k1, k2, k3, k4, k5⟩, ⟨k6, k7, k8, k9⟩, k10, k11, k12, k13⟩ := hw
  obtain ⟨⟨⟨o1, o2⟩, o3⟩, -⟩ := ho
  unfold atB at hF
  refine C246 ⟨fun q => ⟨fun q2 => ?_, fun q2 => ⟨k1, fun q3 => ?_, fun q3 => ?_⟩⟩, fun q => ⟨k1, ?_⟩⟩
  · rw [if_neg q, if_neg (by omega)] at hF; exact hF
  · rw [if_neg q, if_neg (by omega)] at hF; exact hF
  · rw [if_neg q, if_pos (by omega)] at hF
    rw [k3]
    refine ⟨k7, by omega, ?_⟩
    have := o3 k.toNat _ (getD_at (x := 0) q2 (by omega))
    rw [show ((k.toNat : Nat) : Int) = k by omega] at this
    rw [this]
    exact hF
  · rw [if_pos q] at hF
    rw [o1]
    exact hF
theorem dsteps_c {F : Int → SC → Prop} (hX : FIX c) (hF : F (fI c 176 3) c) : ck iv L h0 d 26 [vr 64] c (qi F) := by
  obtain ⟨w1, w2, w3, w4, w5, w6, w7, w8, w9⟩ := hX.wt
  refine C26 ⟨w1, ?_⟩
  rw [w3]
  exact ⟨w7, hF⟩
theorem dwhere_c {F : Int → SC → Prop} (hX : FIX c) (hF : F (fI c 176 5) c) : ck iv L h0 d 27 [vr 64] c (qi F) := by
  obtain ⟨w1, w2, w3, w4, w5, w6, w7, w8, w9⟩ := hX.wt
  refine C27 ⟨w1, ?_⟩
  rw [w3]
  exact ⟨w7, hF⟩
theorem dvalue_c {F : Int → SC → Prop} (hX : FIX c) (H0 : fR c 176 6 = 2 → F (-9) c) (H1 : fR c 176 6 ≠ 2 → WO A P c 183 o ∧ F (atB o.1 k) c) : ck iv L h0 (d + 1) 28 [vr 64, vi k] c (qi F) := by
  obtain ⟨w1, w2, w3, w4, w5, w6, w7, w8, w9⟩ := hX.wt
  refine C28 ⟨w1, ?_⟩
  rw [w3, w4]
  exact ⟨w7, fun q => ⟨w8, byte_c hX.wrc.1 (H1 q).1 (H1 q).2⟩, fun q => H0 q⟩
/-- the hole of that number -/
theorem lefth_c {F : Nat → SC → Prop} (hX : FIX c) (H0 : fR c 176 6 = 2 → F 2 c) (ho : fR c 176 6 ≠ 2 → WO A P c 183 o) (H1 : fR c 176 6 ≠ 2 → ¬ (0 ≤ k ∧ k < o.2.length) → F 2 c) (H2 : fR c 176 6 ≠ 2 → (0 ≤ k ∧ k < o.2.length) → ∀ a, DV A c P (o.2.getD k.toNat .null) a [] → isW (o.2.getD k.toNat .null) = true → F a c) : ck iv L h0 d 54 [vr 64, vi k] c (qa F) := by
  obtain ⟨w1, w2, w3, w4, w5, w6, w7, w8, w9⟩ := hX.wt
  refine C54 ⟨w1, ?_⟩
  rw [w3, w4]
  refine ⟨w7, fun q => H0 q, fun q => ⟨fun q2 => H1 q (by omega), fun q2 => ⟨w8, fun q3 => ?_, fun q3 => ?_⟩⟩⟩
  · obtain ⟨⟨k1, k2, k3, k4, k5⟩, ⟨k6, k7, k8, k9⟩, k10, k11, k12, k13⟩ := hX.wrc.1
    obtain ⟨⟨⟨o1, o2⟩, o3⟩, ⟨o4, o5⟩, o6⟩ := ho q
    rw [k2]
    have := o6 k.toNat _ (getD_at (x := .null) q2 (by omega))
    rw [show ((k.toNat : Nat) : Int) = k by omega] at this
    exact ⟨k6, by omega, H2 q ⟨q2, by omega⟩ _ this.1 this.2⟩
  · have := (ho q).2.1.1
    exact H1 q (by omega)
theorem dleft_c {F : Int → SC → Prop} (hX : FIX c) (hN : NDW A c s) (hV : fR c 176 6 ≠ 2 → (isV V = true ∧ VB s V) ∧ WO A P c 183 (wrt s V)) (H0 : fR c 176 6 = 2 → F (-9) c) (H1 : fR c 176 6 ≠ 2 → F (lefA s V k) c) : ck iv L h0 (d + 1) 29 [vr 64, vi k] c (qi F) := by
  obtain ⟨w1, w2, w3, w4, w5, w6, w7, w8, w9⟩ := hX.wt
  refine C29 ⟨w1, lefth_c (P := P) (A := A) (o := wrt s V) hX (fun q => ⟨fun w => absurd rfl w, fun _ => H0 q⟩) (fun q => (hV q).2) (fun q q2 => ⟨fun w => absurd rfl w, fun _ => ?_⟩) (fun q q2 a hd hw => ?_)⟩
  · have := H1 q
    unfold lefA at this
    rw [if_neg q2] at this
    exact this
  · have := H1 q
    unfold lefA at this
    rw [if_pos q2] at this
    obtain ⟨bb, E, e1, e2, e3, e4⟩ := wrt_hb (hV q).1 _ (List.mem_of_getElem? (getD_at (x := .null) q2.1 q2.2))
    rw [e1] at hd this
    obtain ⟨⟨⟨h1, h1'⟩, h2⟩, h3, h4, l, h5, h6⟩ := hd
    obtain ⟨n1, n2, n3⟩ := hN.1 bb (by omega) e4
    rw [h3]
    refine ⟨fun _ => ⟨h1', n1, ?_⟩, fun w => by have := h1'; rw [w, hX.2.2.2] at this; omega⟩
    rw [n2]
    exact this
theorem dseen_c {F : Int → SC → Prop} (h1 : R1 A c s t) (hT : SHT s t) (hp : PLP c p q) (hV : fR c 176 6 ≠ 2 → (isV V = true ∧ VB s V) ∧ WO A (YNG c p) c 183 (wrt s V)) (H0 : ¬ (0 ≤ x ∧ x ≤ 25) → F (-1) c) (H1 : fR c 176 6 = 2 → (0 ≤ x ∧ x ≤ 25) → F (-9) c) (H2 : fR c 176 6 ≠ 2 → (0 ≤ x ∧ x ≤ 25) → ∀ e, WX 188 c e → F (senA s V k x i) e) : ck iv L h0 (d + 6) 30 [vr 64, vi k, vi x, vi i] c (qi F) := by
  have hX := h1.1.1
  obtain ⟨w1, w2, w3, w4, w5, w6, w7, w8, w9⟩ := hX.wt
  refine C30 (C40 ⟨fun w => ⟨fun z => absurd rfl z, fun _ => H0 (by omega)⟩, fun w => ⟨fun w' => ⟨fun z => absurd rfl z, fun _ => H0 (by omega)⟩, fun w' => ⟨fun _ => ⟨w1, ?_⟩, fun z => by cases z⟩⟩⟩)
  have hx : 0 ≤ x ∧ x ≤ 25 := by omega
  refine lefth_c (P := YNG c p) (A := A) (o := wrt s V) hX (fun q => ⟨fun w => absurd rfl w, fun _ => H1 q hx⟩) (fun q => (hV q).2) (fun q q2 => ⟨fun w => absurd rfl w, fun _ => ?_⟩) (fun q q2 a hd hw => ?_)
  · have := H2 q hx c WX.rf
    unfold senA at this
    rw [if_neg (fun z => q2 ⟨z.1, z.2.1⟩)] at this
    exact this
  · obtain ⟨bb, E, e1, e2, e3, e4⟩ := wrt_hb (hV q).1 _ (List.mem_of_getElem? (getD_at (x := .null) q2.1 q2.2))
    have es : seeV s V k x = lkE E x := by unfold seeV; rw [e1]
    rw [e1] at hd
    obtain ⟨⟨⟨h1', h1''⟩, h2⟩, h3, h4, l, h5, h6⟩ := hd
    have a2 : a ≠ 2 := yng2 h1'
    refine ⟨fun _ => ⟨w1, h1'', by rw [w3]; exact w7, ?_⟩, fun w => absurd w a2⟩
    rw [w3]
    obtain ⟨m, rfl⟩ : ∃ m : Nat, x = m := ⟨x.toNat, by omega⟩
    have lk := DV_lk 26 E e2 h6 m (Nat.zero_le _) (by omega)
    refine seen_find_c (fun a ha => yng2 ha) h5 ⟨fun z => ⟨w1, by rw [w5]; exact w9, ?_⟩, fun z => ?_⟩
    · have hnn : lkE E m ≠ .null := fun w => z (lk.1.mpr w)
      obtain ⟨v1, v2⟩ := VB_lk E m e3 hnn
      rw [w5]
      refine written_c (fun a ha => yng2 ha) hX.wrc.2 (NDW_of h1 hT) ⟨v1, v2⟩ (lk.2 hnn) (fun f hx' ho => ?_)
      have xf := hx'.cx w9 (by decide)
      have hXf := (h1.x hT xf (by decide) (by decide) (by decide) (by decide)).1.1
      obtain ⟨y1, y2, y3, y4, y5, y6, y7, y8, y9⟩ := hXf.wt
      refine ⟨y1, by rw [y5]; exact y9, ?_⟩
      rw [y5]
      refine byte_c hXf.wrc.2 ho ?_
      have := H2 q hx f hx'
      unfold senA at this
      rw [es, if_pos ⟨q2.1, q2.2, hnn⟩] at this
      exact this
    · have := H2 q hx c WX.rf
      unfold senA at this
      rw [es, if_neg (fun w => w.2.2 (lk.1.mp z))] at this
      exact this
end
end
section
/-! What the desk keeps of fillers, of reasons then, of whether it was changed. -/
/-- the reason that was noted of a node, -9: none -/
def thW : List (Int × Int) → Int → Int
  | [], _ => -9
  | p :: r, x => if p.1 = x then p.2 else thW r x
/-- notes of nodes born, each but once -/
def wfW (s : SM) (W : List (Int × Int)) : Prop := ∀ p, p ∈ W → thW W p.1 = p.2 ∧ 0 ≤ p.2 ∧ 0 ≤ p.1 ∧ p.1 < s.1 8
theorem thW_no {W : List (Int × Int)} {x : Int} (h : ∀ p, p ∈ W → p.1 ≠ x) : thW W x = -9 := by
  induction W with
  | nil => rfl
  | cons p r ih =>
    show (if p.1 = x then p.2 else thW r x) = -9
    rw [if_neg (h p (List.mem_cons_self ..))]
    exact ih (fun q hq => h q (List.mem_cons_of_mem _ hq))
theorem thW_map {f : Int → Int} {l : List Int} {x : Int} : (x ∈ l → thW (l.map fun y => (y, f y)) x = f x) ∧ (x ∉ l → thW (l.map fun y => (y, f y)) x = -9) := by
  induction l with
  | nil => exact ⟨fun h => (by cases h), fun _ => rfl⟩
  | cons a r ih =>
    have e : thW ((a :: r).map fun y => (y, f y)) x = if a = x then f a else thW (r.map fun y => (y, f y)) x := rfl
    rw [e]
    by_cases q : a = x
    · rw [if_pos q, q]
      exact ⟨fun _ => rfl, fun h => absurd (List.mem_cons_self ..) h⟩
    · rw [if_neg q]
      refine ⟨fun h => ?_, fun h => ih.2 (fun w => h (List.mem_cons_of_mem _ w))⟩
      rcases List.mem_cons.mp h with w | w
      · exact absurd w.symm q
      · exact ih.1 w
/-- cells of nodes that are none of those born hold nothing of this -/
def QN (A : Int → Nat) (c : SC) (s : SM) : Prop := ∀ a, a < nxt c → kl c a = 5 → (fR c a 12 = 2 ∧ fI c a 11 = -9) ∨ ∃ b, 0 ≤ b ∧ b < s.1 8 ∧ a = A b
def DLK (A : Int → Nat) (c : SC) (s : SM) (t : Term) (W : List (Int × Int)) : Prop := (fI c 64 15 = 0 ↔ s.1 35 = 0) ∧ QN A c s ∧ (∀ b, b ∈ fl t → fR c (A b) 12 = 2) ∧ (s.1 35 = 0 → (∀ b, 0 ≤ b → b < s.1 8 → 0 < s.2 42 b → fR c (A b) 12 = A (s.2 42 b - 1)) ∧ ∀ b, b ∈ fl t → fI c (A b) 11 = thW W b)
section
variable {iv : List (Int × Int)} {L : Nat} {h0 : MH} {A A' : Int → Nat} {P Q : Nat → Prop} {c c0 e f : SC} {σ s s' v : SM} {t t' u : Term} {d p q a g y r : Nat} {n b x z i k : Int} {ys : List (Nat × Nat)} {rs : List Nat} {K : List Snap} {W : List (Int × Int)}
theorem new_c (hN : ND A c s) (hN' : ND A' e s') (hQ : QN A c s) (hE : EXT A A' (s.1 8)) (hx : CX ys rs c e) (hy : (∀ k, (k, 11) ∉ ys)) (h12 : ∀ a, a < nxt c → fR c a 12 = 2 → kl c a = 5 → fR e a 12 = 2) (hW : NWc (nxt c) e) (h8 : s.1 8 ≤ s'.1 8) (h0 : 0 ≤ s.1 8) (hb : s.1 8 ≤ b ∧ b < s'.1 8) : fR e (A' b) 12 = 2 ∧ fI e (A' b) 11 = -9 := by
  obtain ⟨⟨m1, -⟩, m9, m10⟩ := hN'.2 b (by omega) hb.2
  by_cases q : A' b < nxt c
  · have k5 : kl c (A' b) = 5 := by rw [← hx.k q]; exact m1
    rcases hQ _ q k5 with ⟨h1, h2⟩ | ⟨b0, h1, h2, h3⟩
    · exact ⟨h12 _ q h1 k5, (hx.i q (hy _)).trans h2⟩
    · rw [← hE b0 h2] at h3
      have := hN'.inj ⟨by omega, hb.2⟩ h3.symm
      omega
  · exact hW _ (by omega) (by omega) m1
theorem QN_up (hQ : QN A c s) (hN : ND A c s) (hE : EXT A A' (s.1 8)) (hx : CX ys rs c e) (hy : (∀ k, (k, 11) ∉ ys)) (h12 : ∀ a, a < nxt c → fR c a 12 = 2 → kl c a = 5 → fR e a 12 = 2) (hW : NWc (nxt c) e) (h8 : s.1 8 ≤ s'.1 8) : QN A' e s' := fun a ha hk => by
  by_cases q : a < nxt c
  · have k5 : kl c a = 5 := by rw [← hx.k q]; exact hk
    rcases hQ a q k5 with ⟨h1, h2⟩ | ⟨b, h1, h2, h3⟩
    · exact Or.inl ⟨h12 a q h1 k5, (hx.i q (hy _)).trans h2⟩
    · exact Or.inr ⟨b, h1, by omega, by rw [h3, hE b h2]⟩
  · exact Or.inl (hW a (by omega) ha hk)
theorem NWc_nn {e : SC} (h : nxt e ≤ nxt c) : NWc (nxt c) e := fun a h1 h2 => by omega
/-- .. over an act -/
theorem DLK_act (h : DLK A c s t W) (hN : ND A c s) (hN' : ND A' e s') (hE : EXT A A' (s.1 8)) (hx : CX acY acR c e) (hW : NWc (nxt c) e) (h8 : 0 ≤ s.1 8 ∧ s.1 8 ≤ s'.1 8) (h15 : fI e 64 15 = 1) (h35 : s'.1 35 ≠ 0) (hm : ∀ x, x ∈ fl t → 0 ≤ x ∧ x < s.1 8) (hm' : ∀ x, x ∈ fl t' → x < s'.1 8 ∧ (x ∈ fl t ∨ s.1 8 ≤ x)) : DLK A' e s' t' W := by
  obtain ⟨h1, h2, h3, h4⟩ := h
  have y11 : ∀ k : Nat, (k, 11) ∉ acY := fun k => by unfold acY; simp
  have y12 : ∀ k : Nat, (k, 12) ∉ acY := fun k => by unfold acY; simp
  have h12 : ∀ a, a < nxt c → fR c a 12 = 2 → kl c a = 5 → fR e a 12 = 2 := fun a ha h _ => (hx.r ha (y12 _)).trans h
  refine ⟨⟨fun w => by omega, fun w => absurd w h35⟩, QN_up h2 hN hE hx y11 h12 hW h8.2, fun b hb => ?_, fun w => absurd w h35⟩
  obtain ⟨m1, m2⟩ := hm' b hb
  by_cases q : s.1 8 ≤ b
  · exact (new_c hN hN' h2 hE hx y11 h12 hW h8.2 h8.1 ⟨q, m1⟩).1
  · have hbt := m2.resolve_right q
    have hb := hm b hbt
    obtain ⟨⟨n1, -⟩, n9, n10⟩ := hN.2 b hb.1 hb.2
    rw [hE b hb.2]
    exact h12 _ (by omega) (h3 b hbt) n1
/-- .. over what changes neither nodes' notes nor the flag -/
theorem DLK_x (h : DLK A c s t W) (hX : FIX c) (hN : ND A c s) (hx : CX ys rs c e) (hr : RMk 0 0 c e) (hy : (∀ k, (k, 11) ∉ ys) ∧ (∀ k, (k, 12) ∉ ys) ∧ (1, 15) ∉ ys) (hm : ∀ x, x ∈ fl t → 0 ≤ x ∧ x < s.1 8) (h8 : s'.1 8 = s.1 8) (h35 : s'.1 35 = s.1 35) (h42 : ∀ b, 0 ≤ b → b < s.1 8 → s'.2 42 b = s.2 42 b) : DLK A e s' t W := by
  obtain ⟨h1, h2, h3, h4⟩ := h
  have h353 := hX.2.2.1
  have e15 : fI e 64 15 = fI c 64 15 := hx.i (by omega) (by rw [hX.wt.1]; exact hy.2.2)
  have lt : ∀ b, 0 ≤ b → b < s.1 8 → A b < nxt c := fun b b0 b1 => by
    obtain ⟨-, n9, -⟩ := hN.2 b b0 b1
    omega
  refine ⟨by rw [e15, h35]; exact h1, QN_up h2 hN EXT.rf hx hy.1 (fun a ha h _ => (hx.r ha (hy.2.1 _)).trans h) (NWc_nn hr.1) (by omega), fun b hb => ?_, fun w => ⟨fun b b0 b1 hf => ?_, fun b hb => ?_⟩⟩
  · rw [hx.r (lt b (hm b hb).1 (hm b hb).2) (hy.2.1 _)]; exact h3 b hb
  · rw [h8] at b1
    rw [h42 b b0 b1] at hf ⊢
    rw [hx.r (lt b b0 b1) (hy.2.1 _)]
    exact (h4 (by rw [← h35]; exact w)).1 b b0 b1 hf
  · rw [hx.i (lt b (hm b hb).1 (hm b hb).2) (hy.1 _)]
    exact (h4 (by rw [← h35]; exact w)).2 b hb
/-- .. over an undoing -/
theorem DLK_und (h : DLK A c s t W) (hN : ND A c s) (hx : CX unY acR c e) (hr : RMk 0 0 c e) (h15 : fI e 64 15 = 1) (h35 : s'.1 35 ≠ 0) (h8 : s'.1 8 = s.1 8) (hF : FL2 A c e (fl t')) : DLK A e s' t' W := by
  obtain ⟨h1, h2, h3, h4⟩ := h
  have y11 : ∀ k : Nat, (k, 11) ∉ unY := fun k => by unfold unY acY; simp
  refine ⟨⟨fun w => by omega, fun w => absurd w h35⟩, QN_up h2 hN EXT.rf hx y11 (fun a ha h _ => ?_) (NWc_nn hr.1) (by omega), hF.1, fun w => absurd w h35⟩
  rcases hF.2 a ha with w | w
  · exact w.trans h
  · exact w
/-- .. over a fill -/
theorem DLK_fil {o : Int} (h : DLK A c s t W) (hX : FIX c) (hN : ND A c s) (hN' : ND A' e s') (hE : EXT A A' (s.1 8)) (hx : CX unY acR c e) (hW : NWc (nxt c) e) (h8 : 0 ≤ s.1 8 ∧ s.1 8 < s'.1 8) (h15 : fI e 64 15 = fI c 64 15) (h35 : s'.1 35 = 0 ↔ s.1 35 = 0) (hm : ∀ x, x ∈ fl t → 0 ≤ x ∧ x < s.1 8) (ho : o ∈ fl t) (hm' : ∀ x, x ∈ fl t' → x < s'.1 8 ∧ ((x ∈ fl t ∧ x ≠ o) ∨ s.1 8 ≤ x)) (hFo : fR e (A o) 12 = A' (s.1 8)) (hF : ∀ a, a < nxt c → a ≠ A o → kl c a = 5 → fR e a 12 = fR c a 12) (h42 : ∀ y, s'.2 42 y = if y = o then s.1 8 + 1 else s.2 42 y) (hFB : ∀ b, 0 ≤ b → b < s.1 8 → s.2 42 b = 0 ∨ (b < s.2 42 b - 1 ∧ s.2 42 b - 1 < s.1 8)) (hFZ : ∀ b, s.1 8 ≤ b → b < 3000 → s.2 42 b = 0) (h3 : s'.1 8 ≤ 3000) (hWf : wfW s W) : DLK A' e s' t' W := by
  obtain ⟨h1, h2, h3', h4⟩ := h
  have y11 : ∀ k : Nat, (k, 11) ∉ unY := fun k => by unfold unY acY; simp
  have hob := hm o ho
  have lt : ∀ b, 0 ≤ b → b < s.1 8 → A b < nxt c ∧ kl c (A b) = 5 := fun b b0 b1 => by
    obtain ⟨⟨n1, -⟩, n9, -⟩ := hN.2 b b0 b1
    exact ⟨by omega, n1⟩
  have lo := lt o hob.1 hob.2
  -- the hole's own cell is a node's
  have h12 : ∀ a, a < nxt c → a ≠ A o → fR c a 12 = 2 → kl c a = 5 → fR e a 12 = 2 := fun a ha hn h hk => (hF a ha hn hk).trans h
  have hQ' : QN A' e s' := fun a ha hk => by
    by_cases q : a < nxt c
    · have k5 : kl c a = 5 := by rw [← hx.k q]; exact hk
      by_cases q2 : a = A o
      · exact Or.inr ⟨o, hob.1, by omega, by rw [hE o hob.2]; exact q2⟩
      · rcases h2 a q k5 with ⟨w1, w2⟩ | ⟨b, w1, w2, w3⟩
        · exact Or.inl ⟨h12 a q q2 w1 k5, (hx.i q (y11 _)).trans w2⟩
        · exact Or.inr ⟨b, w1, by omega, by rw [w3, hE b w2]⟩
    · exact Or.inl (hW a (by omega) ha hk)
  have nw : ∀ b, s.1 8 ≤ b → b < s'.1 8 → fR e (A' b) 12 = 2 ∧ fI e (A' b) 11 = -9 := fun b b0 b1 => by
    obtain ⟨⟨m1, -⟩, m9, m10⟩ := hN'.2 b (by omega) b1
    by_cases q : A' b < nxt c
    · have k5 : kl c (A' b) = 5 := by rw [← hx.k q]; exact m1
      have ne : ∀ b', 0 ≤ b' → b' < s.1 8 → A' b ≠ A b' := fun b' b0' b1' w => by
        rw [← hE b' b1'] at w
        have := hN'.inj ⟨by omega, b1⟩ w.symm
        omega
      rcases h2 _ q k5 with ⟨w1, w2⟩ | ⟨b', w1, w2, w3⟩
      · exact ⟨h12 _ q (ne o hob.1 hob.2) w1 k5, (hx.i q (y11 _)).trans w2⟩
      · exact absurd w3 (ne b' w1 w2)
    · exact hW _ (by omega) (by omega) m1
  have old : ∀ b, 0 ≤ b → b < s.1 8 → b ≠ o → fR e (A' b) 12 = fR c (A b) 12 := fun b b0 b1 hn => by
    rw [hE b b1]
    exact hF _ (lt b b0 b1).1 (fun w => hn (hN.inj hob w)) (lt b b0 b1).2
  refine ⟨by rw [h15, h35]; exact h1, hQ', fun b hb => ?_, fun w => ?_⟩
  · obtain ⟨m1, m2⟩ := hm' b hb
    by_cases q : s.1 8 ≤ b
    · exact (nw b q m1).1
    · obtain ⟨m3, m4⟩ := m2.resolve_right q
      rw [old b (hm b m3).1 (hm b m3).2 m4]
      exact h3' b m3
  · obtain ⟨w1, w2⟩ := h4 (h35.1 w)
    refine ⟨fun b b0 b1 hf => ?_, fun b hb => ?_⟩
    · rw [h42] at hf ⊢
      by_cases q : b = o
      · rw [if_pos q, q, hE o hob.2, hFo]
        congr 1; omega
      · rw [if_neg q] at hf ⊢
        by_cases q2 : b < s.1 8
        · rw [old b b0 q2 q, w1 b b0 q2 hf]
          have := (hFB b b0 q2).resolve_left (by omega)
          exact (hE _ this.2).symm
        · have := hFZ b (by omega) (by omega)
          omega
    · obtain ⟨m1, m2⟩ := hm' b hb
      by_cases q : s.1 8 ≤ b
      · rw [(nw b q m1).2]
        exact (thW_no (fun p hp w => by have := hWf p hp; omega)).symm
      · obtain ⟨m3, m4⟩ := m2.resolve_right q
        have hb' := hm b m3
        rw [hE b hb'.2, hx.i (lt b hb'.1 hb'.2).1 (y11 _)]
        exact w2 b m3
end
end
section
/-! What the reference holds between calls, all of it. -/
def FBZ (s : SM) : Prop := ∀ b, s.1 8 ≤ b → b < 3000 → s.2 42 b = 0
/-- numbers kept are borne -/
def NVK (s : SM) (K : List Snap) : Prop := ∀ u, u ∈ K → ∀ x, x ∈ fl u.1 → nvl (s.2 9 x) (u.2.2 10 x) = u.2.2 10 x
def MS (n : Int) (s : SM) (t : Term) (K : List Snap) (Sh : Int → Option Snap) (V : Term) (W : List (Int × Int)) : Prop := (AFT s t ∧ KIs s ∧ NV s ∧ NVK s K) ∧ (BX s ∧ CM n s) ∧ (KL s K ∧ ShL s Sh) ∧ (FBK s ∧ FBZ s) ∧ (VK s V ∧ RSM s t V) ∧ WLs s W ∧ wfW s W
def msN : List Nat := [2, 8, 15, 16, 24, 35, 52, 54, 55, 61, 62, 63, 71]
def msR : List Nat := [1, 4, 5, 6, 7, 9, 10, 11, 12, 13, 14, 25, 26, 27, 28, 29, 37, 38, 39, 40, 42, 46, 47, 48, 49, 50, 51, 53, 64, 65, 72]
def mgN : List Nat := [8, 24, 35, 52, 54, 55, 61, 62, 63]
def mgR : List Nat := [9, 10, 11, 12, 13, 14, 25, 26, 27, 28, 29, 42, 46, 47, 48, 49, 50, 51, 53, 64, 65]
section
variable {s w v : SM} {t t' : Term} {n : Int} {K K' : List Snap} {Sh : Int → Option Snap} {V : Term} {W : List (Int × Int)} {ey ef : List Nat}
/-- a row without places for one call -/
theorem SX.row (hx : SX ey ef s w) {f : Nat} (h1 : f ∉ scR) (h2 : f ∉ ef) (h3 : f ≠ 4 ∧ f ≠ 5 ∧ f ≠ 6 ∧ f ≠ 7 ∧ f ≠ 9 ∧ f ≠ 10 ∧ f ≠ 11 ∧ f ≠ 12 ∧ f ≠ 13 ∧ f ≠ 14) : w.2 f = s.2 f := by
  funext i
  exact hx.2 f h1 h2 i (by unfold scI; omega)
/-- .. of nodes -/
theorem SX.nod (hx : SX ey ef s w) {f : Nat} (h1 : f = 9 ∨ f = 10 ∨ f = 11 ∨ f = 12 ∨ f = 13) (h2 : f ∉ ef) {x : Int} (h3 : x < 3000) : w.2 f x = s.2 f x :=
  hx.2 f (by rcases h1 with e | e | e | e | e <;> rw [e] <;> decide) h2 x (by unfold scI; omega)
theorem KIs_x (h : KIs s) (hx : SX ey ef s w) (hy : 2 ∉ ey) (hf : 4 ∉ ef ∧ 5 ∉ ef ∧ 6 ∉ ef ∧ 7 ∉ ef) : KIs w := by
  have h2 : w.1 2 = s.1 2 := hx.1 2 (by decide) hy
  have hn := h.1
  show KI (w.1 2) (w.2 4) (w.2 5) (w.2 6) (w.2 7)
  rw [h2]
  have e : ∀ f, (f = 4 ∨ f = 5 ∨ f = 6 ∨ f = 7) → ∀ k : Int, 0 ≤ k → k < s.1 2 → f ∉ ef → w.2 f k = s.2 f k := fun f hf k k0 k1 hq => hx.2 f (by rcases hf with e | e | e | e <;> rw [e] <;> decide) hq k (by unfold scI; omega)
  exact KI_lt h (fun k k0 k1 => ⟨e 4 (by omega) k k0 k1 hf.1, e 5 (by omega) k k0 k1 hf.2.1, e 6 (by omega) k k0 k1 hf.2.2.1, e 7 (by omega) k k0 k1 hf.2.2.2⟩)
theorem BX_x (h : BX s) (hx : SX ey ef s w) (hy : 71 ∉ ey) (hf : 72 ∉ ef) (h8 : s.1 8 ≤ w.1 8) : BX w := by
  rw [show BX w = ((0 ≤ w.1 71 ∧ w.1 71 ≤ 8) ∧ ∀ i, 0 ≤ i → i < 8 → 0 ≤ w.2 72 i ∧ w.2 72 i ≤ w.1 8) from rfl, hx.1 71 (by decide) hy, hx.row (f := 72) (by decide) hf (by decide)]
  exact ⟨h.1, fun i i0 i8 => by have := h.2 i i0 i8; omega⟩
theorem FBK_x (h : FBK s) (hx : SX ey ef s w) (hf : 42 ∉ ef) (hz : FBZ s) (h8 : s.1 8 ≤ w.1 8 ∧ w.1 8 ≤ 3000) : FBK w ∧ FBZ w := by
  have e := hx.row (f := 42) (by decide) hf (by decide)
  refine ⟨fun b b0 b1 => ?_, fun b b0 b1 => ?_⟩
  · rw [e]
    by_cases q : b < s.1 8
    · rcases h b b0 q with w | w
      · exact Or.inl w
      · exact Or.inr ⟨w.1, by omega⟩
    · exact Or.inl (hz b (by omega) (by omega))
  · rw [e]; exact hz b (by omega) b1
theorem keep_x (hx : SX ey ef s w) (hf : 46 ∉ ef ∧ 47 ∉ ef ∧ 48 ∉ ef ∧ 49 ∉ ef ∧ 50 ∉ ef ∧ 51 ∉ ef ∧ 53 ∉ ef) {lo hi elo ehi : Int} : KEEP s w lo hi elo ehi := by
  have e : ∀ f, (f = 46 ∨ f = 47 ∨ f = 48 ∨ f = 49 ∨ f = 50 ∨ f = 51 ∨ f = 53) → f ∉ ef → w.2 f = s.2 f := fun f hf hn => hx.row (by rcases hf with e | e | e | e | e | e | e <;> rw [e] <;> decide) hn (by omega)
  refine ⟨fun f u hf' _ _ => ?_, fun j _ _ => by rw [e 53 (by omega) hf.2.2.2.2.2.2]⟩
  rcases hf' with q | q | q | q | q | q <;> rw [q]
  · rw [e 46 (by omega) hf.1]
  · rw [e 47 (by omega) hf.2.1]
  · rw [e 48 (by omega) hf.2.2.1]
  · rw [e 49 (by omega) hf.2.2.2.1]
  · rw [e 50 (by omega) hf.2.2.2.2.1]
  · rw [e 51 (by omega) hf.2.2.2.2.2.1]
/-- the last value stays -/
theorem VK_x (h : VK s V) (hx : SX ey ef s w) (hy : 52 ∉ ey ∧ 54 ∉ ey ∧ 55 ∉ ey ∧ 61 ∉ ey ∧ 62 ∉ ey) (hf : 46 ∉ ef ∧ 47 ∉ ef ∧ 48 ∉ ef ∧ 49 ∉ ef ∧ 50 ∉ ef ∧ 51 ∉ ef ∧ 53 ∉ ef) (h8 : s.1 8 ≤ w.1 8) : VK w V := fun hv => by
  have e52 := hx.1 52 (by decide) hy.1
  have e54 := hx.1 54 (by decide) hy.2.1
  have e55 := hx.1 55 (by decide) hy.2.2.1
  have e61 := hx.1 61 (by decide) hy.2.2.2.1
  have e62 := hx.1 62 (by decide) hy.2.2.2.2
  have hv' : hasV s := by unfold hasV at hv ⊢; rw [e61] at hv; exact hv
  obtain ⟨a1, a2, a3⟩ := h hv'
  refine ⟨?_, ⟨a2.1, ?_⟩, VB_up h8 _ V (Nat.lt_succ_self _) a3⟩
  · unfold HB at a1 ⊢; rw [e55, e52, e54]; exact a1
  · rw [e55, e52, e54, e62]
    exact VR_k a2.2 (keep_x hx hf) (Int.le_refl _) (Int.le_refl _)
theorem WLs_x (h : WLs s W) (hx : SX ey ef s w) (hy : 63 ∉ ey) (hf : 64 ∉ ef ∧ 65 ∉ ef) : WLs w W := by
  unfold WLs at h ⊢
  rw [hx.1 63 (by decide) hy, hx.row (f := 64) (by decide) hf.1 (by decide), hx.row (f := 65) (by decide) hf.2 (by decide)]
  exact h
theorem KL_x (h : KL s K) (hx : SX ey ef s w) (h8 : s.1 8 ≤ 3000 ∧ s.1 8 ≤ w.1 8) (h9 : ∀ x, 0 ≤ x → x < s.1 8 → w.2 9 x = s.2 9 x) (hy : 24 ∉ ey) (hf : 25 ∉ ef ∧ 26 ∉ ef ∧ 27 ∉ ef ∧ 28 ∉ ef ∧ 29 ∉ ef) : KL w K :=
  KL_up h h8.2 h9 (hx.1 24 (by decide) hy) ⟨hx.row (by decide) hf.1 (by decide), hx.row (by decide) hf.2.1 (by decide), hx.row (by decide) hf.2.2.1 (by decide), hx.row (by decide) hf.2.2.2.1 (by decide), hx.row (by decide) hf.2.2.2.2 (by decide)⟩
theorem cov_x (hS : SHT s t) (hS' : SHT w t) (h9 : ∀ y, y ∈ fl t → w.2 9 y = s.2 9 y) (h10 : ∀ y, y ∈ fl t → w.2 10 y = s.2 10 y) {x : Int} (hx : x ∈ fl t) {E : Term} (h : cov s x E) : cov w x E := fun y y0 y1 hy => h y y0 y1 (by
  have := bnd_cg hS.w hS'.w (nu := s.2 10) (nu' := w.2 10) h9 (fun z hz _ => h10 z hz) 70 x y hx
  show bnd (s.2 9) (s.2 10) (s.2 12) (s.2 13) 70 x y ≠ -9
  rw [← this]
  exact hy)
theorem RSM_x (h : RSM s t V) (hS : SHT s t) (hx : SX ey ef s w) (hS' : SHT w t) (hy : ∀ y, y ∈ mgN → y ∉ ey) (hf : ∀ y, y ∈ mgR → y ∉ ef) : RSM w t V := fun hv h35 => by
  have e8 := hx.1 8 (by decide) (hy 8 (by decide))
  have e35 := hx.1 35 (by decide) (hy 35 (by decide))
  have e52 := hx.1 52 (by decide) (hy 52 (by decide))
  have e54 := hx.1 54 (by decide) (hy 54 (by decide))
  have e55 := hx.1 55 (by decide) (hy 55 (by decide))
  have e61 := hx.1 61 (by decide) (hy 61 (by decide))
  have e62 := hx.1 62 (by decide) (hy 62 (by decide))
  have e42 := hx.row (f := 42) (by decide) (hf 42 (by decide)) (by decide)
  have h9 : ∀ y, y ∈ fl t → w.2 9 y = s.2 9 y := fun y hy' => hx.nod (Or.inl rfl) (hf 9 (by decide)) (hS.lt hy').2.2
  have h10 : ∀ y, y ∈ fl t → w.2 10 y = s.2 10 y := fun y hy' => hx.nod (Or.inr (Or.inl rfl)) (hf 10 (by decide)) (hS.lt hy').2.2
  rw [e61] at hv
  rw [e35] at h35
  obtain ⟨a1, a2, a3, a4⟩ := h hv h35
  refine ⟨?_, ⟨a2.1, ?_⟩, ?_, fun y hy' hs => ?_⟩
  · unfold HB at a1 ⊢; rw [e55, e52, e54]; exact a1
  · rw [e55, e52, e54, e62]
    exact VR_k a2.2 (keep_x hx ⟨hf 46 (by decide), hf 47 (by decide), hf 48 (by decide), hf 49 (by decide), hf 50 (by decide), hf 51 (by decide), hf 53 (by decide)⟩) (Int.le_refl _) (Int.le_refl _)
  · show VG w t (tgt w t) V
    rw [tgt_e e42]
    exact VG_cg (by omega) (fun x hx' => ⟨hx', h9 x hx', fun E hE => cov_x hS hS' h9 h10 hx' hE⟩) (fun b hb _ _ => ⟨hb, fun E hE => cov_x hS hS' h9 h10 hb hE, fun q => ⟨q, by rw [q] at hb; exact h9 _ hb⟩⟩) _ V (Nat.lt_succ_self _) a3
  · rw [e42]
    rw [h9 y hy'] at hs
    exact a4 y hy' hs
theorem NVK_x (h : NVK s K) (hK : KL s K) (h9 : ∀ x, 0 ≤ x → x < s.1 8 → w.2 9 x = s.2 9 x) : NVK w K := fun u hu x hx => by
  obtain ⟨i, hi, rfl⟩ := List.mem_iff_getElem.mp hu
  have hP := (hK.2.2 i K[i] (List.getElem?_eq_getElem hi)).2
  have hb := (AT_mem K[i].1 hP.1.1 x hx).1
  rw [h9 x hb.1 hb.2]
  exact h _ hu x hx
theorem NVK_push (h : NVK s K) (hN : NV s) (hS : SHT s t) : NVK s (push K (t, s)) := fun u hu x hx => by
  unfold push at hu
  rcases List.mem_append.mp hu with q | q
  · exact h u (by
      split at q
      · exact List.mem_of_mem_tail q
      · exact q) x hx
  · rw [List.mem_singleton.mp q] at hx ⊢
    have hb := hS.lt hx
    exact (hN x hb.1 hb.2.1).1
/-- over looks, a going, findings, the box, kinds -/
theorem MS_g {n' : Int} {Sh' : Int → Option Snap} (h : MS n s t K Sh V W) (hx : SX ey ef s w) (hy : ∀ y, y ∈ mgN → y ∉ ey) (hf : ∀ y, y ∈ mgR → y ∉ ef) (hA : AFT w t) (hKI : KIs w) (hBX : BX w) (hC : CM n' w) (hS : ShL w Sh') : MS n' w t K Sh' V W := by
  obtain ⟨⟨a1, a2, a3, a4⟩, ⟨b1, b2⟩, ⟨c1, c2⟩, ⟨d1, d2⟩, ⟨e1, e2⟩, g1, g2⟩ := h
  have hB := a1.1.2.2.2.2.1
  have e8 := hx.1 8 (by decide) (hy 8 (by decide))
  have hF := FBK_x d1 hx (hf 42 (by decide)) d2 ⟨by omega, by omega⟩
  exact ⟨⟨hA, hKI, a3.x hx hB.2 (hy 8 (by decide)) ⟨hf 9 (by decide), hf 10 (by decide), hf 11 (by decide)⟩, NVK_x a4 c1 (fun x x0 x1 => hx.nod (Or.inl rfl) (hf 9 (by decide)) (by omega))⟩, ⟨hBX, hC⟩, ⟨KL_x c1 hx ⟨hB.2, by omega⟩ (fun x x0 x1 => hx.nod (Or.inl rfl) (hf 9 (by decide)) (by omega)) (hy 24 (by decide)) ⟨hf 25 (by decide), hf 26 (by decide), hf 27 (by decide), hf 28 (by decide), hf 29 (by decide)⟩, hS⟩, hF, ⟨VK_x e1 hx ⟨hy 52 (by decide), hy 54 (by decide), hy 55 (by decide), hy 61 (by decide), hy 62 (by decide)⟩ ⟨hf 46 (by decide), hf 47 (by decide), hf 48 (by decide), hf 49 (by decide), hf 50 (by decide), hf 51 (by decide), hf 53 (by decide)⟩ (by omega), RSM_x e2 a1.1 hx hA.1 hy hf⟩, WLs_x g1 hx (hy 63 (by decide)) ⟨hf 64 (by decide), hf 65 (by decide)⟩, fun p hp => by have := g2 p hp; omega⟩
theorem CM_up {n' : Int} (h : CM n s) (hn : n ≤ n') : CM n' s := fun f f0 f6 => by have := h f f0 f6; omega
theorem MS_up {n' : Int} (h : MS n s t K Sh V W) (hn : n ≤ n') : MS n' s t K Sh V W := ⟨h.1, ⟨h.2.1.1, CM_up h.2.1.2 hn⟩, h.2.2⟩
/-- over what changes nothing that is kept -/
theorem MS_x (h : MS n s t K Sh V W) (hx : SX ey ef s w) (hy : ∀ y, y ∈ msN → y ∉ ey) (hf : ∀ y, y ∈ msR → y ∉ ef) : MS n w t K Sh V W := by
  obtain ⟨⟨a1, a2, a3, a4⟩, ⟨b1, b2⟩, ⟨c1, c2⟩, -⟩ := id h
  have e8 := hx.1 8 (by decide) (hy 8 (by decide))
  have m1 : ∀ y, y ∈ mgN → y ∈ msN := by decide
  have m2 : ∀ y, y ∈ mgR → y ∈ msR := by decide
  exact MS_g h hx (fun y q => hy y (m1 y q)) (fun y q => hf y (m2 y q)) (a1.x hx ⟨hy 2 (by decide), hy 8 (by decide), hy 15 (by decide), hy 16 (by decide)⟩ ⟨hf 9 (by decide), hf 10 (by decide), hf 11 (by decide), hf 12 (by decide), hf 13 (by decide), hf 14 (by decide)⟩) (KIs_x a2 hx (hy 2 (by decide)) ⟨hf 4 (by decide), hf 5 (by decide), hf 6 (by decide), hf 7 (by decide)⟩) (BX_x b1 hx (hy 71 (by decide)) (hf 72 (by decide)) (by omega)) (b2.x hx (hf 1 (by decide))) (c2.x hx (hy 2 (by decide)) ⟨hf 37 (by decide), hf 38 (by decide), hf 39 (by decide), hf 40 (by decide)⟩)
/-- a finding more -/
theorem MS_mt {f : Int} (h : MS n s t K Sh V W) (hf : 0 ≤ f ∧ f < 6) : MS (n + 1) (mtU s f) t K Sh V W := by
  obtain ⟨⟨a1, a2, a3, a4⟩, ⟨b1, b2⟩, ⟨c1, c2⟩, -⟩ := id h
  have hx : SX [0] [1] s (mtU s f) := SX.eq (ys := [0]) (fs := [1]) (eqx_ua (eqx_us eqx.rf (by decide)) (by decide)) (by decide) (by decide)
  refine MS_g h hx (by decide) (by decide) (a1.x hx (by decide) (by decide)) (KIs_x a2 hx (by decide) (by decide)) (BX_x b1 hx (by decide) (by decide) (Int.le_refl _)) (fun g g0 g6 => ?_) (c2.x hx (by decide) (by decide))
  have h1 := b2 g g0 g6
  show 0 ≤ (if (1 : Nat) = 1 ∧ g = f then s.2 1 f + 1 else s.2 1 g) ∧ (if (1 : Nat) = 1 ∧ g = f then s.2 1 f + 1 else s.2 1 g) ≤ n + 1
  by_cases q : g = f
  · rw [if_pos ⟨rfl, q⟩, ← q]; omega
  · rw [if_neg (fun z => q z.2)]; omega
/-- over an act -/
theorem MS_act (h : MS n s t K Sh V W) (hx : SX [8, 15, 16, 24, 35] [9, 10, 11, 12, 13, 14, 25, 26, 27, 28, 29] s v) (h8 : s.1 8 ≤ v.1 8) (hA : AFT v t') (hN : NV v ∧ NVK v K') (hK : KL v K') (h35 : v.1 35 ≠ 0) : MS n v t' K' Sh V W := by
  obtain ⟨⟨a1, a2, a3, a4⟩, ⟨b1, b2⟩, ⟨c1, c2⟩, ⟨d1, d2⟩, ⟨e1, e2⟩, g1, g2⟩ := h
  have hB := hA.1.2.2.2.2.1
  exact ⟨⟨hA, KIs_x a2 hx (by decide) (by decide), hN⟩, ⟨BX_x b1 hx (by decide) (by decide) h8, b2.x hx (by decide)⟩, ⟨hK, c2.x hx (by decide) (by decide)⟩, FBK_x d1 hx (by decide) d2 ⟨h8, hB.2⟩, ⟨VK_x e1 hx (by decide) (by decide) h8, fun _ w => absurd w h35⟩, WLs_x g1 hx (by decide) (by decide), fun p hp => by have := g2 p hp; omega⟩
end
end
section
/-! What the reference holds between calls: behind undo, work, resume, fill. -/
theorem VG_cg2 {s w : SM} {t t' : Term} {g g' : Int → Int} (h8 : s.1 8 ≤ w.1 8) (hm : ∀ x, x ∈ fl t → s.2 9 x ≠ 0 → x ∈ fl t' ∧ w.2 9 x = s.2 9 x ∧ ∀ E, cov s x E → cov w x E) (hg : ∀ b, g b ∈ fl t → 0 ≤ b → b < s.1 8 → g' b ∈ fl t' ∧ (∀ E, cov s (g b) E → cov w (g' b) E) ∧ (g' b = b → g b = b ∧ w.2 9 b = s.2 9 b)) : ∀ (n : Nat) (V : Term), SizeOf.sizeOf V < n → VG s t g V → VG w t' g' V := by
  intro n
  induction n with
  | zero => intro V h; omega
  | succ n ih =>
    intro V hn h
    cases V with
    | sub d E =>
      cases d with
      | index d =>
        obtain ⟨⟨h1, h2⟩, h3, h4, h5⟩ := h
        obtain ⟨m1, m2, m3⟩ := hm _ h1 (by omega)
        exact ⟨⟨m1, m2.trans h2⟩, m3 E h3, h4, ih E (by simp at hn; omega) h5⟩
      | _ => exact h.elim
    | add A B => exact ⟨⟨h.1.1, ih A (by simp at hn; omega) h.1.2⟩, h.2.1, ih B (by simp at hn; omega) h.2.2⟩
    | div d E =>
      cases d with
      | index b =>
        obtain ⟨⟨h1, h2, h3⟩, h4, h5, h6⟩ := h
        obtain ⟨m1, m2, m3⟩ := hg b h2 (by omega) h1
        exact ⟨⟨by omega, m1, fun q => by obtain ⟨q1, q2⟩ := m3 q; rw [q2]; exact h3 q1⟩, m2 E h4, h5, ih E (by simp at hn; omega) h6⟩
      | _ => exact h.elim
    | length A => exact ⟨h.1, ih A (by simp at hn; omega) h.2⟩
    | rem b q =>
      cases b with
      | index b =>
        cases q with
        | elem A q =>
          cases q with
          | elem B E =>
            obtain ⟨⟨b1, a1, a2⟩, hc⟩ := h
            obtain ⟨m1, m2, m3⟩ := hm _ b1 (by omega)
            refine ⟨⟨m1, a1, ih A (by simp at hn; omega) a2⟩, ?_⟩
            rw [m2]
            rcases hc with ⟨c1, c2, c3, c4⟩ | ⟨c1, c2, c3, c4, c5⟩ | c
            · exact Or.inl ⟨c1, c2, ih B (by simp at hn; omega) c3, c4⟩
            · exact Or.inr (Or.inl ⟨c1, c2, c3, m3 E c4, ih E (by simp at hn; omega) c5⟩)
            · exact Or.inr (Or.inr c)
          | _ => exact h.elim
        | _ => exact h.elim
      | _ => exact h.elim
    | mul r x =>
      have h : VG s t g r ∧ (x = .null ∨ (isV x = true ∧ VG s t g x)) := h
      exact ⟨ih r (by simp at hn; omega) h.1, h.2.imp id (fun q => ⟨q.1, ih x (by simp at hn; omega) q.2⟩)⟩
    | int z => trivial
    | arg z => exact h
    | index z => exact h
    | null => trivial
    | _ => exact h.elim
section
variable {s w v : SM} {t t' : Term} {n p : Int} {K K0 K' : List Snap} {Sh : Int → Option Snap} {V : Term} {W : List (Int × Int)} {ey ef : List Nat} {u e : Snap} {R : RS}
theorem MS_und (h : MS n s t K Sh V W) (hK : K = K0 ++ [u]) (hx : SX [24] [12, 13, 14] (undU s u) v) (hT : SHT v u.1) (hKL : KL v K0) : MS n v u.1 K0 Sh V W := by
  obtain ⟨⟨a1, a2, a3, a4⟩, ⟨b1, b2⟩, ⟨c1, c2⟩, -⟩ := id h
  have hB := a1.1.2.2.2.2.1
  have hu : u ∈ K := by rw [hK]; simp
  have hP : KP s u := by
    obtain ⟨i, hi, rfl⟩ := List.mem_iff_getElem.mp hu
    exact (c1.2.2 i K[i] (List.getElem?_eq_getElem hi)).2
  have x0 : SX [15, 16, 35] [10] s (undU s u) := ⟨fun y _ hy => by
    show (if y = 15 then hd u.1 else if y = 16 then u.2.1 16 else if y = 35 then 1 else s.1 y) = s.1 y
    simp at hy
    rw [if_neg (by omega), if_neg (by omega), if_neg (by omega)], fun f _ hf i _ => by
    show (if f = 10 ∧ i ∈ fl u.1 then u.2.2 10 i else s.2 f i) = s.2 f i
    simp at hf
    rw [if_neg (fun q => hf q.1)]⟩
  have xv : SX [8, 15, 16, 24, 35] [9, 10, 11, 12, 13, 14, 25, 26, 27, 28, 29] s v := (x0.up (by decide) (by decide)).tr (hx.up (by decide) (by decide))
  have x1 : SX [15, 16, 24, 35] [10, 12, 13, 14] s v := (x0.up (by decide) (by decide)).tr (hx.up (by decide) (by decide))
  have e8 : v.1 8 = s.1 8 := x1.1 8 (by decide) (by decide)
  have h9 : ∀ x, 0 ≤ x → x < s.1 8 → v.2 9 x = s.2 9 x := fun x x0 x1' => x1.nod (Or.inl rfl) (by decide) (by omega)
  have e35 : v.1 35 = 1 := (hx.1 35 (by decide) (by decide)).trans rfl
  refine MS_act h xv (by omega) (undo_aft a1.2.1 hB.2 hP hx hT) ⟨fun x x0' x1' => ?_, fun w hw x hx' => ?_⟩ hKL (by omega)
  · rw [e8] at x1'
    have e10 : v.2 10 x = if x ∈ fl u.1 then u.2.2 10 x else s.2 10 x := by
      rw [hx.nod (f := 10) (Or.inr (Or.inl rfl)) (by decide) (by omega)]
      show (if 10 = 10 ∧ x ∈ fl u.1 then u.2.2 10 x else s.2 10 x) = _
      by_cases q : x ∈ fl u.1
      · rw [if_pos ⟨rfl, q⟩, if_pos q]
      · rw [if_neg (fun z => q z.2), if_neg q]
    rw [h9 x x0' x1', e10, x1.nod (f := 11) (Or.inr (Or.inr (Or.inl rfl))) (by decide) (by omega)]
    by_cases q : x ∈ fl u.1
    · rw [if_pos q]
      exact ⟨a4 u hu x q, (a3 x x0' x1').2⟩
    · rw [if_neg q]
      exact a3 x x0' x1'
  · exact NVK_x a4 c1 h9 w (by rw [hK]; exact List.mem_append_left _ hw) x hx'
theorem MS_wdn {hf : Int} (h : MS n s t K Sh V W) (hw : WDN s t R hf v) (hR : R.2.1 = 0 ∨ 2 ≤ R.2.1) (hj : ∀ x, x ∈ fl t → 0 ≤ (jdg s t).2.2 x) : MS n v t K Sh R.2.2.2 (wrL s t) := by
  obtain ⟨⟨a1, a2, a3, a4⟩, ⟨b1, b2⟩, ⟨c1, c2⟩, ⟨d1, d2⟩, -⟩ := id h
  obtain ⟨hx, ⟨w1, w2, w3, w4, w5⟩, ⟨w6, w7⟩, w8, w9⟩ := hw
  have hB := a1.1.2.2.2.2.1
  have e8 : v.1 8 = s.1 8 := hx.1 8 (by decide) (by decide)
  have h9 : ∀ x, 0 ≤ x → x < s.1 8 → v.2 9 x = s.2 9 x := fun x x0 x1' => hx.nod (Or.inl rfl) (by decide) (by omega)
  have hA : AFT v t := a1.x hx (by decide) (by decide)
  have n9 : ∀ y, y ∈ fl t → v.2 9 y = s.2 9 y := fun y hy => hx.nod (Or.inl rfl) (by decide) (a1.1.lt hy).2.2
  have n10 : ∀ y, y ∈ fl t → v.2 10 y = s.2 10 y := fun y hy => hx.nod (Or.inr (Or.inl rfl)) (by decide) (a1.1.lt hy).2.2
  have hVN : R.2.1 = 0 → VN v t R.2.2.2 := fun g => VG_cg (by omega) (fun x hx' => ⟨hx', n9 x hx', fun E hE => cov_x a1.1 hA.1 n9 n10 hx' hE⟩) (fun b hb _ _ => ⟨hb, fun E hE => cov_x a1.1 hA.1 n9 n10 hb hE, fun _ => ⟨rfl, n9 _ hb⟩⟩) _ _ (Nat.lt_succ_self _) (w9 g).2.2
  have hv0 : hasV v → R.2.1 = 0 := fun hv => by
    unfold hasV at hv
    rw [w5] at hv
    unfold outE at hv
    by_cases g : R.2.1 = 0
    · exact g
    · rw [if_neg g] at hv
      omega
  refine ⟨⟨hA, KIs_x a2 hx (by decide) (by decide), a3.x hx hB.2 (by decide) (by decide), NVK_x a4 c1 h9⟩, ⟨BX_x b1 hx (by decide) (by decide) (by omega), b2.x hx (by decide)⟩, ⟨KL_x c1 hx ⟨hB.2, by omega⟩ h9 (by decide) (by decide), c2.x hx (by decide) (by decide)⟩, ⟨fun b b0 b1' => Or.inl (w6 b b0 (by omega)), fun b b0 b1' => (w7 b (by omega)).trans (d2 b (by omega) b1')⟩, ⟨fun hv => ⟨(w9 (hv0 hv)).1, (w9 (hv0 hv)).2.1, VB_g hA.1 _ _ (Nat.lt_succ_self _) (hVN (hv0 hv))⟩, fun hv _ => ⟨(w9 (hv0 hv)).1, (w9 (hv0 hv)).2.1, ?_, fun y hy _ => ?_⟩⟩, w8, fun p hp => ?_⟩
  · have hv1 := hVN (hv0 hv)
    show VG v t (tgt v t) R.2.2.2
    refine VG_cg (Int.le_refl _) (fun x hx' => ⟨hx', rfl, fun E hE => hE⟩) (fun b hb b0 b1' => ?_) _ _ (Nat.lt_succ_self _) hv1
    have hb : b ∈ fl t := hb
    have e : tgt v t b = b := if_pos hb
    rw [e]
    exact ⟨hb, fun E hE => hE, fun _ => ⟨rfl, rfl⟩⟩
  · have hb := a1.1.lt hy
    show (if 0 < v.2 42 y then fllN (v.2 42) 3003 (v.2 42 y - 1) else y) = y
    rw [w6 y hb.1 hb.2.1, if_neg (by omega)]
  · unfold wrL at hp ⊢
    obtain ⟨x, hx', rfl⟩ := List.mem_map.mp hp
    have hb := a1.1.lt hx'
    have hr := hj x hx'
    exact ⟨thW_map.1 hx', hr, hb.1, by omega⟩
/-- chains of fillers, one more filled -/
theorem fll_fil {fb fv : Int → Int} {o B : Int} (ho : 0 ≤ o ∧ o < B) (h0 : fb o ≤ 0) (hv : ∀ y, fv y = if y = o then B + 1 else fb y) (hB : fb B ≤ 0) (hF : ∀ b, 0 ≤ b → b < B → fb b = 0 ∨ (b < fb b - 1 ∧ fb b - 1 < B)) : ∀ (n : Nat) (b : Int), 0 ≤ b → b < B → B - b + 1 ≤ n → (fllN fb n b ≠ o → fllN fv n b = fllN fb n b) ∧ (fllN fb n b = o → fllN fv n b = B) := by
  intro n
  induction n with
  | zero => intro b b0 b1 hn; omega
  | succ n ih =>
    intro b b0 b1 hn
    show ((if 0 < fb b then fllN fb n (fb b - 1) else b) ≠ o → (if 0 < fv b then fllN fv n (fv b - 1) else b) = (if 0 < fb b then fllN fb n (fb b - 1) else b)) ∧ ((if 0 < fb b then fllN fb n (fb b - 1) else b) = o → (if 0 < fv b then fllN fv n (fv b - 1) else b) = B)
    by_cases q : b = o
    · have e1 : ¬ 0 < fb b := by rw [q]; omega
      have e2 : fv b = B + 1 := by rw [hv, if_pos q]
      rw [if_neg e1, e2, if_pos (by omega)]
      refine ⟨fun w => absurd q w, fun _ => ?_⟩
      rw [show B + 1 - 1 = B by omega]
      cases n with
      | zero => rfl
      | succ n =>
        show (if 0 < fv B then fllN fv n (fv B - 1) else B) = B
        have e3 : fv B = fb B := by rw [hv, if_neg (by omega)]
        rw [e3, if_neg (by omega)]
    · have e2 : fv b = fb b := by rw [hv, if_neg q]
      rw [e2]
      by_cases z : 0 < fb b
      · rw [if_pos z, if_pos z]
        have h2 := (hF b b0 b1).resolve_left (by omega)
        exact ih (fb b - 1) (by omega) h2.2 (by omega)
      · rw [if_neg z, if_neg z]
        exact ⟨fun _ => rfl, fun w => absurd w q⟩
theorem sq_leaf0 (hS : SHT s t) (hc : s.1 16 ∈ fl t) (h0 : s.2 9 (s.1 16) = 0) : fl (sq (s.1 16) t) = [s.1 16] := by
  obtain ⟨b1, b2, b3, -⟩ := sq_ok hS.1 hS.2.1 hS.2.2.1 hc
  unfold full at b2
  rw [b3, h0] at b2
  have hp : pO 0 = 0 := by decide
  rw [hp] at b2
  generalize sq (s.1 16) t = q at *
  cases q with
  | index b =>
    have b3 : (b : Int) = s.1 16 := b3
    show [(b : Int)] = _
    rw [b3]
  | add x y =>
    exfalso
    have : na (.add x y) = na x + 1 := rfl
    have h1 := na_ge x
    omega
  | _ => exact b1.elim
/-- what a filled sheet is made of -/
theorem fil_mem (hS : SHT s t) (hc : s.1 16 ∈ fl t) (h0 : s.2 9 (s.1 16) = 0) (he : AT (e.2.2 9) (e.2.2 14) (e.2.2 12) (e.2.2 13) (e.2.1 8) e.1) (x : Int) : x ∈ fl (filT s t e) ↔ (x ∈ fl t ∧ x ≠ s.1 16) ∨ (s.1 8 ≤ x ∧ x < s.1 8 + (fl e.1).length) := by
  obtain ⟨a, z, h1, h2, -⟩ := rpT_fl hS.1 hS.2.2.1 hc
  have hB := hS.2.2.2.2.1
  have h2 := h2 (rlb e.1 (s.1 8).toNat)
  have hl := sq_leaf0 hS hc h0
  rw [hl] at h1
  have hnd := hS.2.2.1
  rw [h1] at hnd
  have hm : x ∈ fl (rlb e.1 (s.1 8).toNat) ↔ (s.1 8 ≤ x ∧ x < s.1 8 + (fl e.1).length) := by
    refine ⟨fun h => by have := rlb_at he h; omega, fun h => ?_⟩
    rw [(rlb_fl e.1 (s.1 8).toNat he).1]
    exact List.mem_map.mpr ⟨x.toNat, List.mem_range'_1.mpr ⟨by omega, by omega⟩, by show ((x.toNat : Nat) : Int) = x; omega⟩
  unfold filT
  rw [h2, h1]
  simp only [List.mem_append, List.mem_singleton, hm]
  have na1 : s.1 16 ∉ a := fun q => (List.nodup_append.mp hnd).2.2 _ q _ (by simp) rfl
  have na2 : s.1 16 ∉ z := fun q => by
    have := (List.nodup_append.mp hnd).2.1
    simp at this
    exact this.1 q
  refine ⟨fun h => ?_, fun h => ?_⟩
  · rcases h with q | q | q
    · exact Or.inl ⟨Or.inl q, fun w => na1 (w ▸ q)⟩
    · exact Or.inr q
    · exact Or.inl ⟨Or.inr (Or.inr q), fun w => na2 (w ▸ q)⟩
  · rcases h with ⟨q | q | q, w⟩ | q
    · exact Or.inl q
    · exact absurd q w
    · exact Or.inr (Or.inr q)
    · exact Or.inr (Or.inl q)
theorem bnd_fil (hS : SHT s t) (hc : s.1 16 ∈ fl t) (h0 : s.2 9 (s.1 16) = 0) (h9 : ∀ y, y < s.1 8 → v.2 9 y = s.2 9 y ∧ v.2 10 y = s.2 10 y) (h12 : ∀ y, y < s.1 8 → v.2 12 y = s.2 12 y ∧ v.2 13 y = s.2 13 y) : ∀ (n : Nat) (b x : Int), b ∈ fl t → bnd (v.2 9) (v.2 10) (v.2 12) (v.2 13) n b x = bnd (s.2 9) (s.2 10) (s.2 12) (s.2 13) n b x := by
  intro n
  induction n with
  | zero => intro b x _; rfl
  | succ n ih =>
    intro b x hb
    have hbl := hS.lt hb
    unfold bnd
    rw [(h12 b hbl.2.1).1, (h12 b hbl.2.1).2]
    by_cases q : s.2 12 b = -9
    · rw [if_pos q, if_pos q]
    · rw [if_neg q, if_neg q]
      have hu : s.2 12 b ∈ fl t := hS.up9 hb (fun w => q (by rw [w]; exact hS.2.2.2.2.2.2.1))
      have hul := hS.lt hu
      rw [(h9 _ hul.2.1).1, (h9 _ hul.2.1).2, ih _ x hu]
theorem MS_fil (h : MS n s t K Sh V W) (hp : 0 ≤ p ∧ p < 6) (hSp : Sh p = some e) (h0 : s.2 9 (s.1 16) = 0) (hF : FDONE s t K e v) : MS n v (filT s t e) (push K (t, s)) Sh V W := by
  obtain ⟨⟨a1, a2, a3, a4⟩, ⟨b1, b2⟩, ⟨c1, c2⟩, ⟨d1, d2⟩, ⟨e1, e2⟩, g1, g2⟩ := id h
  obtain ⟨hx, ⟨w1, w2, w3⟩, w4, w5, w6, w7, w8, w9, w10, w11⟩ := hF
  have hS := a1.1
  have hc := a1.2.2
  have hcl := hS.lt hc
  have hB := hS.2.2.2.2.1
  have hB' := w8.1.2.2.2.2.1
  obtain ⟨-, f2⟩ := c2 p hp.1 hp.2
  obtain ⟨f3, f4, f5⟩ := f2 e hSp
  have hpos := List.length_pos_of_mem (hd_mem _ f4.1)
  have mem := fil_mem hS hc h0 f4.1
  have h9 : ∀ y, y < s.1 8 → v.2 9 y = s.2 9 y ∧ v.2 10 y = s.2 10 y := fun y hy => ⟨(w4 y hy).1, (w4 y hy).2.1⟩
  have hbn := bnd_fil hS hc h0 h9 w9
  have hcov : ∀ x, x ∈ fl t → ∀ E, cov s x E → cov v x E := fun x hx' E hE y y0 y1 hy => hE y y0 y1 (by
    show bnd (s.2 9) (s.2 10) (s.2 12) (s.2 13) 70 x y ≠ -9
    rw [← hbn 70 x y hx']
    exact hy)
  have hcov2 : ∀ E, cov s (s.1 16) E → cov v (s.1 8) E := fun E hE y y0 y1 hy => hE y y0 y1 (by
    have e1 : bnd (v.2 9) (v.2 10) (v.2 12) (v.2 13) 70 (s.1 8) y = bnd (v.2 9) (v.2 10) (v.2 12) (v.2 13) 70 (s.1 16) y := by
      unfold bnd
      rw [w10, w11, (w9 _ hcl.2.1).1, (w9 _ hcl.2.1).2]
    show bnd (s.2 9) (s.2 10) (s.2 12) (s.2 13) 70 (s.1 16) y ≠ -9
    rw [← hbn 70 _ y hc, ← e1]
    exact hy)
  have hz8 : s.2 42 (s.1 8) = 0 := d2 _ (Int.le_refl _) (by omega)
  refine ⟨⟨w8, KIs_x a2 hx (by decide) (by decide), fun x x0 x1 => ?_, fun u hu x hx' => ?_⟩, ⟨BX_x b1 hx (by decide) (by decide) (by omega), b2.x hx (by decide)⟩, ⟨w7, c2.x hx (by decide) (by decide)⟩, ⟨fun b b0 b1' => ?_, fun b b0 b1' => ?_⟩, ⟨VK_x e1 hx (by decide) (by decide) (by omega), fun hv h35 => ?_⟩, WLs_x g1 hx (by decide) (by decide), fun p hp => by have := g2 p hp; omega⟩
  · by_cases q : x < s.1 8
    · obtain ⟨q1, q2, q3⟩ := w4 x q
      rw [q1, q2, q3]
      exact a3 x x0 q
    · obtain ⟨k, hk⟩ : ∃ k : Nat, x = s.1 8 + k := ⟨(x - s.1 8).toNat, by omega⟩
      have hkl : k < (fl e.1).length := by omega
      have hg := List.getElem?_eq_getElem hkl
      obtain ⟨q1, q2, q3⟩ := w5 k _ hg
      rw [hk, q1, q2, q3]
      exact (f5 k _ hg).2.2.2.2.2
  · have hq := NVK_push a4 a3 hS u hu x hx'
    have hub : 0 ≤ x ∧ x < s.1 8 := by
      unfold push at hu
      rcases List.mem_append.mp hu with q | q
      · have hq : u ∈ K := by
          split at q
          · exact List.mem_of_mem_tail q
          · exact q
        obtain ⟨i, hi, rfl⟩ := List.mem_iff_getElem.mp hq
        exact (AT_mem K[i].1 (c1.2.2 i K[i] (List.getElem?_eq_getElem hi)).2.1.1 x hx').1
      · rw [List.mem_singleton.mp q] at hx'
        have := hS.lt hx'
        exact ⟨this.1, this.2.1⟩
    rw [(w4 x hub.2).1]
    exact hq
  · rw [w6]
    by_cases q : b = s.1 16
    · rw [if_pos q]; right; omega
    · rw [if_neg q]
      by_cases q2 : b < s.1 8
      · rcases d1 b b0 q2 with z | z
        · exact Or.inl z
        · exact Or.inr ⟨z.1, by omega⟩
      · exact Or.inl (d2 b (by omega) (by omega))
  · rw [w6, if_neg (by omega)]
    exact d2 b (by omega) b1'
  · have s35 : s.1 35 = 0 := by
      rw [w3] at h35
      unfold chg at h35
      by_cases q : s.1 35 = 0
      · exact q
      · rw [if_pos q] at h35; cases h35
    have e52 := hx.1 52 (by decide) (by decide)
    have e54 := hx.1 54 (by decide) (by decide)
    have e55 := hx.1 55 (by decide) (by decide)
    have e61 := hx.1 61 (by decide) (by decide)
    have e62 := hx.1 62 (by decide) (by decide)
    rw [e61] at hv
    obtain ⟨q1, q2, q3, q4⟩ := e2 hv s35
    have f0 : s.2 42 (s.1 16) ≤ 0 := by
      have h1 := q4 _ hc h0
      by_cases z : 0 < s.2 42 (s.1 16)
      · have h2 := (d1 _ hcl.1 hcl.2.1).resolve_left (by omega)
        have h1 : (if 0 < s.2 42 (s.1 16) then fllN (s.2 42) 3003 (s.2 42 (s.1 16) - 1) else s.1 16) = s.1 16 := h1
        rw [if_pos z] at h1
        have := fill_gt d1 3003 (s.2 42 (s.1 16) - 1) (by omega) h2.2
        omega
      · omega
    have ff := fun b b0 b1 => fll_fil (fb := s.2 42) (fv := v.2 42) (o := s.1 16) (B := s.1 8) ⟨hcl.1, hcl.2.1⟩ f0 w6 (by omega) d1 3004 b b0 b1 (by omega)
    have new : s.1 8 ∈ fl (filT s t e) := (mem _).mpr (Or.inr ⟨Int.le_refl _, by omega⟩)
    have keepm : ∀ x, x ∈ fl t → x ≠ s.1 16 → x ∈ fl (filT s t e) := fun x h1 h2 => (mem x).mpr (Or.inl ⟨h1, h2⟩)
    refine ⟨?_, ⟨q2.1, ?_⟩, ?_, fun y hy hs => ?_⟩
    · unfold HB at q1 ⊢; rw [e55, e52, e54]; exact q1
    · rw [e55, e52, e54, e62]
      exact VR_k q2.2 (keep_x hx (by decide)) (Int.le_refl _) (Int.le_refl _)
    · show VG v (filT s t e) (tgt v (filT s t e)) V
      refine VG_cg2 (by omega) (fun x hx' h9' => ⟨keepm x hx' (fun w => h9' (by rw [w]; exact h0)), (w4 x (hS.lt hx').2.1).1, hcov x hx'⟩) (fun b hb b0 b1' => ?_) _ V (Nat.lt_succ_self _) q3
      by_cases bt : b ∈ fl t
      · have et : tgt s t b = b := if_pos bt
        rw [et]
        by_cases bc : b = s.1 16
        · have en : ¬ b ∈ fl (filT s t e) := fun w => by
            rcases (mem b).mp w with z | z
            · exact z.2 bc
            · omega
          have ev : tgt v (filT s t e) b = s.1 8 := by
            have h1 : fllF (s.2 42) b = b := q4 b bt (by rw [bc]; exact h0)
            have h2 := (ff b b0 b1').2 (by show fllF (s.2 42) b = _; rw [h1, bc])
            show (if b ∈ fl (filT s t e) then b else fllF (v.2 42) b) = _
            rw [if_neg en]
            exact h2
          rw [ev, bc]
          exact ⟨new, fun E hE => hcov2 E hE, fun w => by omega⟩
        · have hm' := keepm b bt bc
          have ev : tgt v (filT s t e) b = b := if_pos hm'
          rw [ev]
          exact ⟨hm', fun E hE => hcov b bt E hE, fun _ => ⟨rfl, (w4 b b1').1⟩⟩
      · have et : tgt s t b = fllF (s.2 42) b := if_neg bt
        rw [et] at hb ⊢
        have en : ¬ b ∈ fl (filT s t e) := fun w => by
          rcases (mem b).mp w with z | z
          · exact bt z.1
          · omega
        have ev : tgt v (filT s t e) b = fllF (v.2 42) b := if_neg en
        rw [ev]
        by_cases yc : fllF (s.2 42) b = s.1 16
        · have h2 : fllF (v.2 42) b = s.1 8 := (ff b b0 b1').2 yc
          rw [h2, yc]
          exact ⟨new, fun E hE => hcov2 E hE, fun w => by omega⟩
        · have h2 : fllF (v.2 42) b = fllF (s.2 42) b := (ff b b0 b1').1 yc
          rw [h2]
          exact ⟨keepm _ hb yc, fun E hE => hcov _ hb E hE, fun w => absurd (w ▸ hb) bt⟩
    · rcases (mem y).mp hy with z | z
      · have hyl := hS.lt z.1
        have h1 : fllF (s.2 42) y = y := q4 y z.1 (by rw [← (w4 y hyl.2.1).1]; exact hs)
        have h2 : fllF (v.2 42) y = fllF (s.2 42) y := (ff y hyl.1 hyl.2.1).1 (by show fllF (s.2 42) y ≠ _; rw [h1]; exact z.2)
        rw [h2, h1]
      · show (if 0 < v.2 42 y then fllN (v.2 42) 3003 (v.2 42 y - 1) else y) = y
        have e3 : v.2 42 y = 0 := by
          rw [w6, if_neg (by omega)]
          exact d2 y z.1 (by omega)
        rw [e3, if_neg (by omega)]
end
end
section
/-! The desk beside the reference, between two calls. -/
/-- the desk's last working -/
def WKD (A : Int → Nat) (c : SC) (s : SM) (V : Term) : Prop := ∃ p q, PLP c p q ∧ ((hasV s → fR c 176 6 ≠ 2 ∧ HLD A c s p V (fR c 176 6) ∧ WO A (YNG c p) c 183 (wrt s V)) ∧ (¬ hasV s → fR c 176 6 = 2)) ∧ (fI c 176 3 = s.1 56 ∧ fI c 176 5 = s.1 60) ∧ (if fI c 176 4 = -1 then -9 else fI c 176 4) = s.1 61
def PAIR (n : Int) (s : SM) (c : SC) : Prop := ∃ A t K Sh V W, MS n s t K Sh V W ∧ DKc A c s t K Sh ∧ WKD A c s V ∧ DLK A c s t W
/-- the room of a call -/
def RQ (c e : SC) : Prop := nxt e + PHI e ≤ nxt c + PHI c + 130 ∧ slo e + 7 * PHI e ≤ slo c + 7 * PHI c + 1200
section
variable {A A' : Int → Nat} {c e : SC} {s s' w v : SM} {t t' : Term} {n : Int} {K K' : List Snap} {Sh : Int → Option Snap} {V : Term} {W : List (Int × Int)} {ey ef : List Nat} {ys : List (Nat × Nat)} {rs : List Nat} {d p q : Nat} {o : List Int × List Term}
theorem RQ.rf : RQ c c := ⟨Nat.le_add_right _ _, Nat.le_add_right _ _⟩
theorem RQ_cx (hX : FIX c) (hx : CX ys rs c e) (h : NPY ys rs) {k m : Nat} (hr : RMk k m c e) (hk : k ≤ 130) (hm : m ≤ 1200) : RQ c e := by
  have h1 := PHI_cx hX hx h
  obtain ⟨r1, r2⟩ := hr
  unfold RQ
  rw [h1]
  omega
theorem RQ_mp (h : RMP c e) : RQ c e := by
  obtain ⟨⟨h1, h2⟩, h3⟩ := h
  exact ⟨by omega, by omega⟩
/-- the hold on the last value over other changes -/
theorem WKD_x (h : WKD A c s V) (hX : FIX c) (hx : CX ys rs c e) (np : NPY ys rs) (h11 : ∀ y, (11, y) ∉ ys) (hw : (fI e 183 1 = fI c 183 1 ∧ fI e 183 3 = fI c 183 3) ∧ aR e 184 = aR c 184 ∧ aI e 185 = aI c 185) (hE : EXT A A' (s.1 8)) (h5 : s'.1 56 = s.1 56 ∧ s'.1 60 = s.1 60 ∧ s'.1 61 = s.1 61) (h9 : ∀ b : Nat, (b : Int) < s.1 8 → s'.2 9 b = s.2 9 b) (h8 : s.1 8 ≤ s'.1 8) : WKD A' e s' V := by
  obtain ⟨p, q, hp, ⟨h1, h2⟩, ⟨h3, h4⟩, h6⟩ := h
  have h353 := hX.2.2.1
  have hk : ky 176 (kl c 176) = 11 := by rw [hX.wk.1]; rfl
  have e6 : fR e 176 6 = fR c 176 6 := hx.r (by omega) (by rw [hk]; exact h11 6)
  have e3 : fI e 176 3 = fI c 176 3 := hx.i (by omega) (by rw [hk]; exact h11 3)
  have e4 : fI e 176 4 = fI c 176 4 := hx.i (by omega) (by rw [hk]; exact h11 4)
  have e5 : fI e 176 5 = fI c 176 5 := hx.i (by omega) (by rw [hk]; exact h11 5)
  have hv : hasV s' ↔ hasV s := by unfold hasV; rw [h5.2.2]
  have hp' : p = 177 ∨ p = 180 := by have := hp.1; omega
  refine ⟨p, q, PLP_cx hX hx np ⟨h11 0, h11 1⟩ hp, ⟨fun z => ?_, fun z => by rw [e6]; exact h2 (fun w => z (hv.mpr w))⟩, ⟨by rw [e3, h5.1]; exact h3, by rw [e5, h5.2.1]; exact h4⟩, by rw [e4, h5.2.2]; exact h6⟩
  obtain ⟨g1, g2, g3⟩ := h1 (hv.mp z)
  have g4 := HLD.kp hX hx np hp' g2
  rw [e6, wrt_cg g2.2.1 h9]
  refine ⟨g1, ⟨g4.1, ⟨g4.2.1.1, VB_up h8 _ V (Nat.lt_succ_self _) g4.2.1.2⟩, DV_EXT hE _ V _ [] (Nat.lt_succ_self _) g4.2.1.2 g4.2.2⟩, ?_⟩
  obtain ⟨⟨o1, o2⟩, ⟨o3, o4⟩, o5⟩ := g3
  refine ⟨⟨by rw [hw.1.2]; exact o1, fun k x hk => by show aI e 185 k = x; rw [hw.2.2]; exact o2 k x hk⟩, ⟨by rw [hw.1.1]; exact o3, o4⟩, fun k X hX' => ?_⟩
  obtain ⟨b, E, e1, e2, e4, e5⟩ := wrt_hb g2.2.1 X (List.mem_of_getElem? hX')
  obtain ⟨d1, d2⟩ := o5 k X hX'
  refine ⟨?_, d2⟩
  show DV A' e (YNG e p) X (aR e 184 k) []
  rw [hw.2.1]
  exact DV_EXT hE _ X _ [] (Nat.lt_succ_self _) (by rw [e1]; exact ⟨e5, e2, e4⟩) (DV_up (sty_cx hX hx np hp') _ X _ [] (Nat.lt_succ_self _) d1)
theorem w183 (hX : FIX c) (hx : CX ys rs c e) (h12 : (12, 1) ∉ ys ∧ (12, 3) ∉ ys) (hr : 184 ∉ rs ∧ 185 ∉ rs) : (fI e 183 1 = fI c 183 1 ∧ fI e 183 3 = fI c 183 3) ∧ aR e 184 = aR c 184 ∧ aI e 185 = aI c 185 := by
  have h353 := hX.2.2.1
  have hk : ky 183 (kl c 183) = 12 := by rw [hX.wt.2.2.2.2.2.2.2.1]; rfl
  exact ⟨⟨hx.i (by omega) (by rw [hk]; exact h12.1), hx.i (by omega) (by rw [hk]; exact h12.2)⟩, hx.ar (by omega) (by unfold rk; rw [if_pos (by omega)]; exact hr.1), hx.ai (by omega) (by unfold rk; rw [if_pos (by omega)]; exact hr.2)⟩
theorem SBX_x (hx : SX ey ef s w) (hy : 0 ∉ ey ∧ 71 ∉ ey) (hf : 1 ∉ ef ∧ 72 ∉ ef) : SBX s w := ⟨⟨hx.1 71 (by decide) hy.2, fun i _ _ => by rw [hx.row (f := 72) (by decide) hf.2 (by decide)]⟩, hx.1 0 (by decide) hy.1, fun f _ _ => by rw [hx.row (f := 1) (by decide) hf.1 (by decide)]⟩
theorem NPY_0 : NPY [] [] := ⟨fun y => ⟨by simp, by simp⟩, ⟨by simp, by simp⟩, by simp, by simp, by simp, by simp⟩
theorem mm (h : MS n s t K Sh V W) : ∀ x, x ∈ fl t → 0 ≤ x ∧ x < s.1 8 := fun x hx => by have := h.1.1.1.lt hx; omega
/-- the reference changed for one call alone -/
theorem DK_sx (hM : MS n s t K Sh V W) (hM' : MS n w t K Sh V W) (hD : DKc A c s t K Sh ∧ WKD A c s V ∧ DLK A c s t W) (hx : SX [] [] s w) : DKc A c w t K Sh ∧ WKD A c w V ∧ DLK A c w t W := by
  obtain ⟨⟨d1, ⟨d2, d3, d4⟩, d5, d6⟩, d7, d8⟩ := hD
  have hT := hM.1.1
  have sb := SBX_x hx (by decide) (by decide)
  have hB := hT.1.2.2.2.2.1
  refine ⟨⟨R1_sx d1 hT.1 hM'.1.1.1 hT.2.1 hM.1.2.1 hx (by decide) (by decide), ⟨d2.sb sb, d3.sb sb, d4⟩, d5, d6⟩, WKD_x (ys := []) (rs := []) d7 d1.1.1 CX.rf NPY_0 (fun y => by simp) ⟨⟨rfl, rfl⟩, rfl, rfl⟩ EXT.rf ⟨hx.1 56 (by decide) (by decide), hx.1 60 (by decide) (by decide), hx.1 61 (by decide) (by decide)⟩ (fun b hb => hx.nod (Or.inl rfl) (by decide) (by omega)) (by rw [hx.1 8 (by decide) (by decide)]; exact Int.le_refl _), DLK_x (ys := []) (rs := []) d8 d1.1.1 d1.1.2.1 CX.rf RMk.rf ⟨fun k => by simp, fun k => by simp, by simp⟩ (mm hM) (hx.1 8 (by decide) (by decide)) (hx.1 35 (by decide) (by decide)) (fun b _ _ => by rw [hx.row (f := 42) (by decide) (by decide) (by decide)])⟩
theorem PAIR_sx (h : PAIR n s c) (hx : SX [] [] s w) : PAIR n w c := by
  obtain ⟨A, t, K, Sh, V, W, hM, hD⟩ := h
  have hM' := MS_x hM hx (by decide) (by decide)
  exact ⟨A, t, K, Sh, V, W, hM', DK_sx hM hM' hD hx⟩
theorem PAIR_up {n' : Int} (h : PAIR n s c) (hn : n ≤ n') : PAIR n' s c := by
  obtain ⟨A, t, K, Sh, V, W, hM, hD⟩ := h
  exact ⟨A, t, K, Sh, V, W, MS_up hM hn, hD⟩
end
end
section
/-! Acts, for the pair: what each of them leaves. -/
def ACE (s s1 : SM) : Prop := eqx [8, 15, 16] [9, 10, 11, 12, 13, 14] s s1 ∧ s.1 8 ≤ s1.1 8 ∧ (∀ y, y < s.1 8 → s1.2 9 y = s.2 9 y) ∧ NV s1
section
variable {iv : List (Int × Int)} {L : Nat} {h0 : MH} {A A' : Int → Nat} {c e : SC} {s s1 w v : SM} {t t' : Term} {n : Int} {K K' : List Snap} {Sh : Int → Option Snap} {V : Term} {W : List (Int × Int)} {ey ef : List Nat} {ys : List (Nat × Nat)} {rs : List Nat} {d p q : Nat} {b i so z k : Int}
theorem NV_q {ys : List Nat} (h : NV s) (hx : eqx ys [12, 13, 14] s w) (h8 : w.1 8 = s.1 8) : NV w := NV_ag h h8 (fun y _ _ => by rw [hx.2 9 (by decide), hx.2 10 (by decide), hx.2 11 (by decide)]; exact ⟨rfl, rfl, rfl⟩)
theorem NV_born (h : NV s) : NV (bornU s so z k) := NV_new (so := so) (v := z) (k := k) h rfl bornU_at (fun y _ y1 => (bornU_o y y1).1)
theorem NV_hl (h : NV s) : NV (hlU b i s) := NV_q (ys := []) (NV_born (so := 0) (z := -9) (k := -9) h) (partU_e (s := bornU s 0 (-9) (-9)) (b := b) (i := i) (c := s.1 8)) rfl
theorem NV_hls : ∀ (m : Nat) (i : Int) (s : SM), NV s → NV (hlsU b m i s) := by
  intro m
  induction m with
  | zero => intro i s h; exact h
  | succ m ih => intro i s h; exact ih (i + 1) (hlU b i s) (NV_hl h)
theorem NV_repl {o : Int} (h : NV s) : NV (replU s o b) := NV_q h replU_e (replU_e.1 8 (by decide))
theorem NV_us {y : Nat} (h : NV s) (hy : y ≠ 8) : NV (us s y z) := NV_ag h (if_neg (fun q => hy q.symm)) (fun _ _ _ => ⟨rfl, rfl, rfl⟩)
theorem take_ac (h : NV s) : ACE s (tkU s) := by
  have e1 := bornU_e (s := s) (so := 0) (v := -9) (k := -9)
  have e2 := replU_e (s := bornU s 0 (-9) (-9)) (o := s.1 16) (c := s.1 8)
  refine ⟨eqx_us ((e1.up (by decide) (by decide)).tr (e2.up (by decide) (by decide))) (by decide), ?_, fun y hy => ?_, NV_us (NV_repl (NV_born h)) (by decide)⟩
  · show s.1 8 ≤ (replU (bornU s 0 (-9) (-9)) (s.1 16) (s.1 8)).1 8
    rw [e2.1 8 (by decide)]
    show s.1 8 ≤ s.1 8 + 1
    omega
  · show (replU (bornU s 0 (-9) (-9)) (s.1 16) (s.1 8)).2 9 y = s.2 9 y
    rw [e2.2 9 (by decide)]
    exact (bornU_o y hy).1.1
theorem put_ac {vv : Int} (h : NV s) : ACE s (putU s so vv k) := by
  have e1 := bornU_e (s := s) (so := so) (v := vv) (k := k)
  have e2 := replU_e (s := bornU s so vv k) (o := s.1 16) (c := s.1 8)
  have b9 : ∀ y, y < s.1 8 → (replU (bornU s so vv k) (s.1 16) (s.1 8)).2 9 y = s.2 9 y := fun y hy => by
    rw [e2.2 9 (by decide)]
    exact (bornU_o y hy).1.1
  have e12 : eqx [8, 15, 16] [9, 10, 11, 12, 13, 14] s (replU (bornU s so vv k) (s.1 16) (s.1 8)) := (e1.up (by decide) (by decide)).tr (e2.up (by decide) (by decide))
  have b8 : (replU (bornU s so vv k) (s.1 16) (s.1 8)).1 8 = s.1 8 + 1 := e2.1 8 (by decide)
  have hn : NV (replU (bornU s so vv k) (s.1 16) (s.1 8)) := NV_repl (NV_born h)
  unfold putU
  by_cases e : s.2 9 (s.1 16) = 0
  · rw [if_pos e]
    have e3 := hlsU_e (s.1 8) (pO so).toNat 0 (replU (bornU s so vv k) (s.1 16) (s.1 8))
    refine ⟨eqx_us (e12.tr (e3.1.up (by decide) (by decide))) (by decide), ?_, fun y hy => ?_, NV_us (NV_hls _ _ _ hn) (by decide)⟩
    · show s.1 8 ≤ (hlsU (s.1 8) (pO so).toNat 0 (replU (bornU s so vv k) (s.1 16) (s.1 8))).1 8
      rw [e3.2.1, b8]
      omega
    · show (hlsU (s.1 8) (pO so).toNat 0 (replU (bornU s so vv k) (s.1 16) (s.1 8))).2 9 y = s.2 9 y
      rw [e3.2.2 y (by omega)]
      exact b9 y hy
  · rw [if_neg e]
    have e4 := partU_e (s := replU (bornU s so vv k) (s.1 16) (s.1 8)) (b := s.1 8) (i := 0) (c := s.1 16)
    have e3 := hlsU_e (s.1 8) (pO so - 1).toNat 1 (partU (replU (bornU s so vv k) (s.1 16) (s.1 8)) (s.1 8) 0 (s.1 16))
    have c8 : (partU (replU (bornU s so vv k) (s.1 16) (s.1 8)) (s.1 8) 0 (s.1 16)).1 8 = s.1 8 + 1 := (e4.1 8 (by decide)).trans b8
    refine ⟨eqx_us ((e12.tr (e4.up (by decide) (by decide))).tr (e3.1.up (by decide) (by decide))) (by decide), ?_, fun y hy => ?_, NV_us (NV_hls _ _ _ (NV_q (ys := []) hn e4 (e4.1 8 (by decide)))) (by decide)⟩
    · show s.1 8 ≤ (hlsU (s.1 8) (pO so - 1).toNat 1 (partU (replU (bornU s so vv k) (s.1 16) (s.1 8)) (s.1 8) 0 (s.1 16))).1 8
      rw [e3.2.1, c8]
      omega
    · show (hlsU (s.1 8) (pO so - 1).toNat 1 (partU (replU (bornU s so vv k) (s.1 16) (s.1 8)) (s.1 8) 0 (s.1 16))).2 9 y = s.2 9 y
      rw [e3.2.2 y (by omega), e4.2 9 (by decide)]
      exact b9 y hy
theorem unwrap_ac (h : NV s) : ACE s (uwU s i) := by
  have e2 := replU_e (s := s) (o := s.1 16) (c := s.2 14 (3 * s.1 16 + i))
  refine ⟨eqx_us (e2.up (by decide) (by decide)) (by decide), ?_, fun y hy => ?_, NV_us (NV_repl h) (by decide)⟩
  · show s.1 8 ≤ (replU s (s.1 16) (s.2 14 (3 * s.1 16 + i))).1 8
    rw [e2.1 8 (by decide)]
    exact Int.le_refl _
  · show (replU s (s.1 16) (s.2 14 (3 * s.1 16 + i))).2 9 y = s.2 9 y
    rw [e2.2 9 (by decide)]
theorem write_ac (h : NV s) (hc : 0 ≤ s.1 16 ∧ s.1 16 < s.1 8) (hg : wriOk s z) : ACE s (ua s 10 (s.1 16) z) :=
  ⟨eqx_ua eqx.rf (by decide), Int.le_refl _, fun y _ => by show (if (9 : Nat) = 10 ∧ y = s.1 16 then z else s.2 9 y) = s.2 9 y; rw [if_neg (fun q => absurd q.1 (by decide))], NV_write h hc hg⟩
theorem move_ac (h : NV s) : ACE s (mvU s b) := by
  have e1 := bornU_e (s := s) (so := 0) (v := -9) (k := -9)
  have e2 := replU_e (s := bornU s 0 (-9) (-9)) (o := s.1 16) (c := s.1 8)
  have e3 := replU_e (s := replU (bornU s 0 (-9) (-9)) (s.1 16) (s.1 8)) (o := b) (c := s.1 16)
  refine ⟨((e1.up (by decide) (by decide)).tr (e2.up (by decide) (by decide))).tr (e3.up (by decide) (by decide)), ?_, fun y hy => ?_, NV_repl (NV_repl (NV_born h))⟩
  · show s.1 8 ≤ (replU (replU (bornU s 0 (-9) (-9)) (s.1 16) (s.1 8)) b (s.1 16)).1 8
    rw [e3.1 8 (by decide), e2.1 8 (by decide)]
    show s.1 8 ≤ s.1 8 + 1
    omega
  · show (replU (replU (bornU s 0 (-9) (-9)) (s.1 16) (s.1 8)) b (s.1 16)).2 9 y = s.2 9 y
    rw [e3.2 9 (by decide), e2.2 9 (by decide)]
    exact (bornU_o y hy).1.1
theorem rename_ac (h : NV s) (hT : AFT s t) (hg : renOk s t z) : ACE s (rnU s t z) := by
  have e9 : ∀ f, f ≠ 10 → (rnU s t z).2 f = s.2 f := fun f hf => rnU_o hf
  refine ⟨⟨fun y _ => rfl, fun f hf => e9 f (fun q => hf (by rw [q]; decide))⟩, Int.le_refl _, fun y _ => by rw [e9 9 (by decide)], fun x x0 x1 => ?_⟩
  have h1 := h x x0 x1
  rw [e9 9 (by decide), e9 11 (by decide)]
  refine ⟨?_, h1.2⟩
  show nvl (s.2 9 x) (if (10 : Nat) = 10 ∧ (x = s.1 16 ∨ (x ∈ fl t ∧ isB s x = true)) then z else s.2 10 x) = (if (10 : Nat) = 10 ∧ (x = s.1 16 ∨ (x ∈ fl t ∧ isB s x = true)) then z else s.2 10 x)
  by_cases q : x = s.1 16 ∨ (x ∈ fl t ∧ isB s x = true)
  · rw [if_pos ⟨rfl, q⟩]
    have hs : s.2 9 x = 3 ∨ s.2 9 x = 8 ∨ s.2 9 x = 10 := by
      rcases q with q | ⟨-, q⟩
      · rw [q]; exact Or.inr hg.2.1
      · unfold isB at q
        simp only [Bool.and_eq_true, decide_eq_true_eq] at q
        exact Or.inl q.1
    unfold nvl
    rw [if_pos (by omega)]
  · rw [if_neg (fun w => q w.2)]
    exact h1.1
/-- where the nodes of the new sheet come from -/
theorem take_in (h : AFT s t) {x : Int} (hx : x ∈ fl (tkT s t)) : x ∈ fl t ∨ s.1 8 ≤ x := by
  have hB := h.1.2.2.2.2.1
  rcases mem_rpT0 hx with q | q
  · exact Or.inl q
  · have := List.mem_singleton.mp q
    right; omega
theorem unwrap_in (h : AFT s t) (hi : uwOk s i) {x : Int} (hx : x ∈ fl (uwT s t i)) : x ∈ fl t ∨ s.1 8 ≤ x := by
  have hS := h.1
  obtain ⟨b1, b2, b3, b4, b5, b6, b7⟩ := sq_ok hS.1 hS.2.1 hS.2.2.1 h.2.2
  rcases mem_rpT hS h.2.2 hx with q | q
  · exact Or.inl q
  · exact Or.inl (b4 x ((prt_ok (sq (s.1 16) t) b1 b5 hi.1 (by have := b2; unfold full at this; rw [this, b3]; exact hi.2)).2.2.2.1 x q))
theorem put_in {vv : Int} (h : AFT s t) (hg : putOk s t so vv k) {x : Int} (hx : x ∈ fl (putT s t so)) : x ∈ fl t ∨ s.1 8 ≤ x := by
  rcases put_mem h.1 h.2.2 hg hx with q | q | q
  · exact Or.inl q
  · right; omega
  · right; omega
theorem move_in (h : AFT s t) {x : Int} (hx : x ∈ fl (mvT s t b)) : x ∈ fl t ∨ s.1 8 ≤ x := by
  have hS := h.1
  have hB := hS.2.2.2.2.1
  rcases mem_rpT0 hx with q | q
  · rcases mem_rpT0 q with q | q
    · exact Or.inl q
    · have := List.mem_singleton.mp q
      right; omega
  · exact Or.inl ((sq_ok hS.1 hS.2.1 hS.2.2.1 h.2.2).2.2.2.1 x q)
theorem NVK_act (h : NVK s K) (hN : NV s) (hS : SHT s t) (hK : KL s K) (h9 : ∀ x, x < s.1 8 → v.2 9 x = s.2 9 x) : NVK v (push K (t, s)) := fun u hu x hx' => by
  have hq := NVK_push h hN hS u hu x hx'
  have hub : x < s.1 8 := by
    unfold push at hu
    rcases List.mem_append.mp hu with q | q
    · have hq : u ∈ K := by
        split at q
        · exact List.mem_of_mem_tail q
        · exact q
      obtain ⟨i, hi, rfl⟩ := List.mem_iff_getElem.mp hq
      exact (AT_mem K[i].1 (hK.2.2 i K[i] (List.getElem?_eq_getElem hi)).2.1.1 x hx').1.2
    · rw [List.mem_singleton.mp q] at hx'
      exact (hS.lt hx').2.1
  rw [h9 x hub]
  exact hq
theorem acR_w : NPY acY acR ∧ 184 ∉ acR ∧ 185 ∉ acR := ⟨⟨fun y => ⟨by unfold acY; simp, by unfold acY; simp⟩, ⟨by decide, by decide⟩, by decide, by decide, by decide, by decide⟩, by decide, by decide⟩
/-- an act, on both sides -/
theorem act_pair (hM : MS n s t K Sh V W) (hD : DKc A c s t K Sh ∧ WKD A c s V ∧ DLK A c s t W) (hdone : DONE s t K 0 s1 v) (hA : AFT s1 t') (hc : ACE s s1) (hin : ∀ x, x ∈ fl t' → x ∈ fl t ∨ s.1 8 ≤ x) (ha : ACT A c s t K e s1 t') : PAIR n v e ∧ RQ c e := by
  obtain ⟨⟨a1, a2, a3, a4⟩, ⟨b1, b2⟩, ⟨c1, c2⟩, -⟩ := id hM
  obtain ⟨hd, hkl⟩ := hdone
  obtain ⟨x1, x2, x3, x4⟩ := hc
  obtain ⟨d1, d2, d3⟩ := hD
  have hB1 := hA.1.2.2.2.2.1
  have xs : SX [8, 15, 16] [9, 10, 11, 12, 13, 14] s s1 := SX.eq x1 (fun y h => Or.inr h) (fun y h => Or.inr h)
  have xv : SX [24, 35] [25, 26, 27, 28, 29] s1 v := (SX.eq (s := s1) (eqx_us eqx.rf (ys := [35]) (fs := []) (y := 35) (z := chg (s.1 35) 0) (by decide)) (by decide) (by decide)).tr (hd.up (by decide) (by decide))
  have xsv : SX [8, 15, 16, 24, 35] [9, 10, 11, 12, 13, 14, 25, 26, 27, 28, 29] s v := (xs.up (by decide) (by decide)).tr (xv.up (by decide) (by decide))
  have e8 : v.1 8 = s1.1 8 := xv.1 8 (by decide) (by decide)
  have e35 : v.1 35 ≠ 0 := by
    rw [hd.1 35 (by decide) (by decide)]
    show chg (s.1 35) 0 ≠ 0
    unfold chg
    split <;> simp
  have h9 : ∀ x, x < s.1 8 → v.2 9 x = s.2 9 x := fun x hx => by
    rw [xv.nod (f := 9) (Or.inl rfl) (by decide) (by omega)]
    exact x3 x hx
  have hAv : AFT v t' := hA.x xv (by decide) (by decide)
  have hM' : MS n v t' (push K (t, s)) Sh V W := MS_act hM xsv (by omega) hAv ⟨x4.x xv hB1.2 (by decide) (by decide), NVK_act a4 a3 a1.1 c1 h9⟩ hkl e35
  obtain ⟨A', g1, g2, g3, g4, g5, g6⟩ := DKc.act d1 b1 (SBX_x xs (by decide) (by decide)) ha
  have sb := SBX_x xv (by decide) (by decide)
  have hX := d1.1.1.1
  have hKIs1 : KIs s1 := KIs_x a2 xs (by decide) (by decide)
  have r1 : R1 A' e v t' := R1_sx g1.1 hA.1 hAv.1 hA.2.1 hKIs1 xv (by decide) (by decide)
  have hDK : DKc A' e v t' (push K (t, s)) Sh := ⟨r1, ⟨g1.2.1.1.sb sb, g1.2.1.2.1.sb sb, g1.2.1.2.2⟩, g1.2.2⟩
  refine ⟨⟨A', t', push K (t, s), Sh, V, W, hM', hDK, WKD_x d2 hX g5 acR_w.1 (fun y => by unfold acY; simp) (w183 hX g5 (by decide) acR_w.2) g2 ⟨xsv.1 56 (by decide) (by decide), xsv.1 60 (by decide) (by decide), xsv.1 61 (by decide) (by decide)⟩ (fun b hb => h9 b hb) (by omega), DLK_act d3 d1.1.1.2.1 r1.1.2.1 g2 g5 g6 ⟨by have := a1.1.2.2.2.2.1; omega, by omega⟩ g4 e35 (mm hM) (fun x hx => ⟨by have := hAv.1.lt hx; omega, hin x hx⟩)⟩, RQ_cx hX g5 acR_w.1 g3 (by decide) (by decide)⟩
end
end
section
/-! Steps of the pair: acts. -/
section
variable {iv : List (Int × Int)} {L : Nat} {h0 : MH} {A A' : Int → Nat} {c e : SC} {s s1 w v : SM} {t t' : Term} {n : Int} {K K' : List Snap} {Sh : Int → Option Snap} {V : Term} {W : List (Int × Int)} {ey ef : List Nat} {ys : List (Nat × Nat)} {rs : List Nat} {d d2 : Nat} {b i so z k f : Int}
/-- what a step leaves -/
def PQ (n : Int) (c : SC) (r : Int) (s' : SM) (r' : Int) (c' : SC) : Prop := r = r' ∧ PAIR n s' c' ∧ RQ c c'
theorem KPs (h : MS n s t K Sh V W) : ∀ u, u ∈ K → KP s u := fun u hu => by
  obtain ⟨i, hi, rfl⟩ := List.mem_iff_getElem.mp hu
  exact (h.2.2.1.1.2.2 i K[i] (List.getElem?_eq_getElem hi)).2
theorem fnd_b (hM : MS n s t K Sh V W) (hD : DKc A c s t K Sh) (hn : n ≤ 512) (hf : 0 ≤ f ∧ f < 6) : 0 ≤ aI c 198 f ∧ aI c 198 f ≤ 600 := by
  rw [hD.2.1.2.1.2 f hf.1 hf.2]
  have := hM.2.1.2 f hf.1 hf.2
  omega
/-- a finding, on both sides -/
theorem ref_pair (hM : MS n s t K Sh V W) (hD : DKc A c s t K Sh ∧ WKD A c s V ∧ DLK A c s t W) (hf : 0 ≤ f ∧ f < 6) : PAIR (n + 1) (mtU s f) (refC c f) ∧ RQ c (refC c f) := by
  obtain ⟨d1, d2, d3⟩ := hD
  have hX := d1.1.1.1
  have hT := hM.1.1
  have hM' := MS_mt hM hf
  have hx := refC_x (f := f) hX
  have sx : SX [0] [1] s (mtU s f) := SX.eq (ys := [0]) (fs := [1]) (eqx_ua (eqx_us eqx.rf (by decide)) (by decide)) (by decide) (by decide)
  have np : NPY fnY [198] := ⟨fun y => ⟨by unfold fnY; simp, by unfold fnY; simp⟩, ⟨by decide, by decide⟩, by decide, by decide, by decide, by decide⟩
  have row : ∀ g, g ≠ 1 → (mtU s f).2 g = s.2 g := fun g hg => by
    funext i
    show (if g = 1 ∧ i = f then _ else s.2 g i) = s.2 g i
    rw [if_neg (fun q => hg q.1)]
  have r1 := R1_sx (d1.1.ref (f := f) hT.1) hT.1 hM'.1.1.1 hT.2.1 hM.1.2.1 sx (by decide) (by decide)
  have b0 := d1.2.1.1.x hX hx (by decide) (by decide)
  have b1 : BXc A (refC c f) (mtU s f) := ⟨b0.1, fun i i0 i8 => by rw [row 72 (by decide)]; exact b0.2 i i0 i8⟩
  exact ⟨⟨A, t, K, Sh, V, W, hM', ⟨r1, ⟨b1, d1.2.1.2.1.ref hf, d1.2.1.2.2.x hX hx (by decide) (fun a ha => by simp at ha; omega)⟩, d1.2.2.1.x hX EXT.rf hT.1.2.2.2.2.1.1 (KPs hM) hx (by decide) (by decide), d1.2.2.2.x hX hx (by decide) (fun a ha => by simp at ha; omega)⟩, WKD_x d2 hX hx np (fun y => by unfold fnY; simp) (w183 hX hx (by decide) (by decide)) EXT.rf ⟨rfl, rfl, rfl⟩ (fun b _ => by rw [row 9 (by decide)]) (Int.le_refl _), DLK_x d3 hX d1.1.1.2.1 hx RMk.rf ⟨fun k => by unfold fnY; simp, fun k => by unfold fnY; simp, by decide⟩ (mm hM) rfl rfl (fun b _ _ => by rw [row 42 (by decide)])⟩, RQ_cx hX hx np (k := 0) (m := 0) RMk.rf (by decide) (by decide)⟩
theorem ps_take (h : PAIR n s c) (hd : 400 ≤ d) (hd2 : 400 ≤ d2) : cm iv L h0 d 108 [vr 307] s (qi fun r s' => ∀ h0', ck iv L h0' d2 14 [vr 64] c (qi (PQ (n + 1) c r s'))) := by
  obtain ⟨A, t, K, Sh, V, W, hM, hD⟩ := h
  have hT := hM.1.1
  refine take_ok hT.1 hT.2.1 hT.2.2 hM.2.2.1.1 (by omega) (fun hn h0' => ?_) (fun hg w hw h0' => ?_)
  · exact take_c hD.1.1 hT hM.1.2.1 hD.1.2.2.1 (KPs hM) (by omega) (fun _ => ⟨rfl, PAIR_up ⟨A, t, K, Sh, V, W, hM, hD⟩ (by omega), RQ.rf⟩) (fun q => absurd q hn)
  · refine take_c hD.1.1 hT hM.1.2.1 hD.1.2.2.1 (KPs hM) (by omega) (fun q => absurd hg q) (fun _ e ha => ?_)
    have := act_pair hM hD hw (take_aft hT hg) (take_ac hM.1.2.2.1) (fun x hx => take_in hT hx) ha
    exact ⟨rfl, PAIR_up this.1 (by omega), this.2⟩
theorem ps_write (h : PAIR n s c) (hd : 400 ≤ d) (hd2 : 400 ≤ d2) : cm iv L h0 d 110 [vr 307, vi z] s (qi fun r s' => ∀ h0', ck iv L h0' d2 16 [vr 64, vi z] c (qi (PQ (n + 1) c r s'))) := by
  obtain ⟨A, t, K, Sh, V, W, hM, hD⟩ := h
  have hT := hM.1.1
  refine write_ok hT.1 hT.2.1 hT.2.2 hM.2.2.1.1 (by omega) (fun hn h0' => ?_) (fun hg w hw h0' => ?_)
  · exact write_c hD.1.1 hT hM.1.2.1 hD.1.2.2.1 (KPs hM) (by omega) (fun _ => ⟨rfl, PAIR_up ⟨A, t, K, Sh, V, W, hM, hD⟩ (by omega), RQ.rf⟩) (fun q => absurd q hn)
  · refine write_c hD.1.1 hT hM.1.2.1 hD.1.2.2.1 (KPs hM) (by omega) (fun q => absurd hg q) (fun _ e ha => ?_)
    have := act_pair hM hD hw (wri_aft hT hg) (write_ac hM.1.2.2.1 (mm hM _ hT.2.2) hg) (fun x hx => Or.inl hx) ha
    exact ⟨rfl, PAIR_up this.1 (by omega), this.2⟩
theorem ps_rename (h : PAIR n s c) (hd : 400 ≤ d) (hd2 : 400 ≤ d2) : cm iv L h0 d 111 [vr 307, vi z] s (qi fun r s' => ∀ h0', ck iv L h0' d2 17 [vr 64, vi z] c (qi (PQ (n + 1) c r s'))) := by
  obtain ⟨A, t, K, Sh, V, W, hM, hD⟩ := h
  have hT := hM.1.1
  refine rename_ok hT.1 hT.2.1 hT.2.2 hM.2.2.1.1 (by omega) (fun w hn hx h0' => ?_) (fun hg w hw h0' => ?_)
  · exact rename_c hD.1.1 hT hM.1.2.1 hD.1.2.2.1 (KPs hM) (by omega) (fun _ => ⟨rfl, PAIR_up (PAIR_sx ⟨A, t, K, Sh, V, W, hM, hD⟩ hx) (by omega), RQ.rf⟩) (fun q => absurd q hn)
  · refine rename_c hD.1.1 hT hM.1.2.1 hD.1.2.2.1 (KPs hM) (by omega) (fun q => absurd hg q) (fun _ e ha => ?_)
    have := act_pair hM hD hw (ren_aft hT hg) (rename_ac hM.1.2.2.1 hT hg) (fun x hx => Or.inl hx) ha
    exact ⟨rfl, PAIR_up this.1 (by omega), this.2⟩
theorem ps_move (h : PAIR n s c) (hd : 400 ≤ d) (hd2 : 400 ≤ d2) : cm iv L h0 d 112 [vr 307, vi z] s (qi fun r s' => ∀ h0', ck iv L h0' d2 18 [vr 64, vi z] c (qi (PQ (n + 1) c r s'))) := by
  obtain ⟨A, t, K, Sh, V, W, hM, hD⟩ := h
  have hT := hM.1.1
  refine move_ok hT.1 hT.2.1 hT.2.2 hM.2.2.1.1 (by omega) (fun w hn hx h0' => ?_) (fun hg w hw h0' => ?_)
  · exact move_c hD.1.1 hT hM.1.2.1 hD.1.2.2.1 (KPs hM) (by omega) (fun _ => ⟨rfl, PAIR_up (PAIR_sx ⟨A, t, K, Sh, V, W, hM, hD⟩ hx) (by omega), RQ.rf⟩) (fun q => absurd q hn)
  · refine move_c hD.1.1 hT hM.1.2.1 hD.1.2.2.1 (KPs hM) (by omega) (fun q => absurd hg q) (fun _ e ha => ?_)
    have := act_pair hM hD hw (mv_aft hT hg) (move_ac hM.1.2.2.1) (fun x hx => move_in hT hx) ha
    exact ⟨rfl, PAIR_up this.1 (by omega), this.2⟩
theorem putA_of (hg : putOk s t so z k) : putA s t so z k = s.1 8 := by
  obtain ⟨⟨g1, g2, g3, g4⟩, g5, g6, g7⟩ := hg
  unfold putA
  rw [if_pos ⟨g1, fun q => q.2 (g2 q.1), fun q => q.2 (g3 q.1), fun q => q.2 (g4 q.1)⟩, if_neg g5, if_neg (by omega)]
theorem ps_put (h : PAIR n s c) (hd : 400 ≤ d) (hd2 : 400 ≤ d2) : cm iv L h0 d 107 [vr 307, vi so, vi z, vi k] s (qi fun r s' => ∀ h0', ck iv L h0' d2 13 [vr 64, vi so, vi z, vi k] c (qi (PQ (n + 1) c r s'))) := by
  obtain ⟨A, t, K, Sh, V, W, hM, hD⟩ := h
  have hT := hM.1.1
  refine put_ok hT.1 hT.2.1 hM.1.2.1 hT.2.2 hM.2.2.1.1 (by omega) (fun w hn hx h0' => ?_) (fun hg w hw h0' => ?_)
  · exact put_c hD.1.1 hT hM.1.2.1 hD.1.2.2.1 (KPs hM) (by omega) (fun _ => ⟨rfl, PAIR_up (PAIR_sx ⟨A, t, K, Sh, V, W, hM, hD⟩ hx) (by omega), RQ.rf⟩) (fun q => absurd q hn)
  · refine put_c hD.1.1 hT hM.1.2.1 hD.1.2.2.1 (KPs hM) (by omega) (fun q => absurd hg q) (fun _ e ha => ?_)
    have := act_pair hM hD hw (put_aft hT hg) (put_ac hM.1.2.2.1) (fun x hx => put_in hT hg hx) ha
    exact ⟨putA_of hg, PAIR_up this.1 (by omega), this.2⟩
theorem ps_unwrap (h : PAIR n s c) (hn : n ≤ 512) (hd : 400 ≤ d) (hd2 : 400 ≤ d2) : cm iv L h0 d 109 [vr 307, vi i] s (qi fun r s' => ∀ h0', ck iv L h0' d2 15 [vr 64, vi i] c (qi (PQ (n + 1) c r s'))) := by
  obtain ⟨A, t, K, Sh, V, W, hM, hD⟩ := h
  have hT := hM.1.1
  have hr := fnd_b (f := 2) hM hD.1 hn (by decide)
  refine unwrap_ok hT.1 hT.2.1 hM.2.1.2 (by omega) hT.2.2 hM.2.2.1.1 (by omega) (fun hn h0' => ?_) (fun hg w hw h0' => ?_)
  · refine unwrap_c hD.1.1 hT hM.1.2.1 hD.1.2.2.1 (KPs hM) (by omega) hr (fun hp => ?_) (fun hp _ => ?_) (fun q => absurd q hn)
    · refine ⟨?_, ?_, RQ.rf⟩
      · unfold uwA; rw [if_pos hp]
      · unfold uwN; rw [if_pos hp]
        exact PAIR_up ⟨A, t, K, Sh, V, W, hM, hD⟩ (by omega)
    · have := ref_pair (f := 2) hM hD (by decide)
      refine ⟨?_, ?_, this.2⟩
      · unfold uwA; rw [if_neg hp, if_neg (show ¬ (0 ≤ i ∧ i < pO (s.2 9 (s.1 16))) from hn)]
      · unfold uwN; rw [if_neg hp]
        exact this.1
  · refine unwrap_c hD.1.1 hT hM.1.2.1 hD.1.2.2.1 (KPs hM) (by omega) hr (fun hp => ?_) (fun hp q => absurd hg q) (fun _ e ha => ?_)
    · exfalso
      have := hg.2
      have := hg.1
      omega
    · have := act_pair hM hD hw (unwrap_aft hT hg) (unwrap_ac hM.1.2.2.1) (fun x hx => unwrap_in hT hg hx) ha
      refine ⟨?_, PAIR_up this.1 (by omega), this.2⟩
      unfold uwA
      rw [if_neg (by have := hg.1; have := hg.2; omega), if_pos (show 0 ≤ i ∧ i < pO (s.2 9 (s.1 16)) from hg)]
end
end
section
/-! Steps of the pair: undo, fill, shelve. -/
section
variable {iv : List (Int × Int)} {L : Nat} {h0 : MH} {A A' : Int → Nat} {c e : SC} {s s1 w v : SM} {t t' : Term} {n n' : Int} {K K' : List Snap} {Sh Sh' : Int → Option Snap} {V : Term} {W : List (Int × Int)} {ey ef : List Nat} {ys : List (Nat × Nat)} {rs : List Nat} {d d2 : Nat} {b i so z k f : Int}
theorem unY_w : NPY unY acR ∧ (∀ y, (11, y) ∉ unY) ∧ ∀ k : Nat, (k, 11) ∉ unY := ⟨⟨fun y => ⟨by unfold unY acY; simp, by unfold unY acY; simp⟩, ⟨by decide, by decide⟩, by decide, by decide, by decide, by decide⟩, fun y => by unfold unY acY; simp, fun k => by unfold unY acY; simp⟩
/-- over a change of the desk that is no act -/
theorem oth_pair (hM : MS n s t K Sh V W) (hD : DKc A c s t K Sh ∧ WKD A c s V ∧ DLK A c s t W) (hM' : MS n' w t K Sh' V W) (hx : CX ys rs c e) (hr : RMk 0 0 c e) (sx : SX ey ef s w) (np : NPY ys rs) (hy : (∀ y, (11, y) ∉ ys) ∧ ((12, 1) ∉ ys ∧ (12, 3) ∉ ys) ∧ (∀ k, (k, 11) ∉ ys) ∧ (∀ k, (k, 12) ∉ ys) ∧ (1, 15) ∉ ys) (hrs : 184 ∉ rs ∧ 185 ∉ rs) (hey : 8 ∉ ey ∧ 35 ∉ ey ∧ 56 ∉ ey ∧ 60 ∉ ey ∧ 61 ∉ ey) (hef : 9 ∉ ef ∧ 42 ∉ ef) (dk : DKc A e w t K Sh') : PAIR n' w e ∧ RQ c e := by
  obtain ⟨d1, d2, d3⟩ := hD
  have hX := d1.1.1.1
  have e8 := sx.1 8 (by decide) hey.1
  have hB := hM.1.1.1.2.2.2.2.1
  exact ⟨⟨A, t, K, Sh', V, W, hM', dk, WKD_x d2 hX hx np hy.1 (w183 hX hx hy.2.1 hrs) EXT.rf ⟨sx.1 56 (by decide) hey.2.2.1, sx.1 60 (by decide) hey.2.2.2.1, sx.1 61 (by decide) hey.2.2.2.2⟩ (fun b hb => sx.nod (Or.inl rfl) hef.1 (by omega)) (by omega), DLK_x d3 hX d1.1.1.2.1 hx hr hy.2.2 (mm hM) e8 (sx.1 35 (by decide) hey.2.1) (fun b _ _ => by rw [sx.row (f := 42) (by decide) hef.2 (by decide)])⟩, RQ_cx hX hx np hr (by decide) (by decide)⟩
theorem ps_undo (h : PAIR n s c) (hd : 400 ≤ d) (hd2 : 400 ≤ d2) : cm iv L h0 (d + 1) 101 [vr 307] s (qi fun r s' => ∀ h0', ck iv L h0' d2 21 [vr 64] c (qi (PQ (n + 1) c r s'))) := by
  obtain ⟨A, t, K, Sh, V, W, hM, hD⟩ := h
  have hT := hM.1.1
  have hB := hT.1.2.2.2.2.1
  refine undo_ok hM.2.2.1.1 hB (fun hk h0' => ?_) (fun K0 u v hk hx hS hKL h0' => ?_)
  · exact undo_c hD.1.1 hT hM.1.2.1 hD.1.2.2.1 (KPs hM) (by omega) (fun _ => ⟨rfl, PAIR_up ⟨A, t, K, Sh, V, W, hM, hD⟩ (by omega), RQ.rf⟩) (fun K1 u1 q => absurd (hk.symm.trans q) (by simp))
  · refine undo_c hD.1.1 hT hM.1.2.1 hD.1.2.2.1 (KPs hM) (by omega) (fun q => absurd (hk.symm.trans q) (by simp)) (fun K1 u1 q e ha => ?_)
    obtain ⟨q1, q2⟩ := List.append_inj' (hk.symm.trans q) rfl
    subst q1
    have q2 : u = u1 := by injection q2
    subst q2
    obtain ⟨d1, d2', d3⟩ := hD
    have hX := d1.1.1.1
    have hM' := MS_und hM hk hx hS hKL
    subst hk
    have hDK := DKc.und d1 hM.2.1.1 ha
    obtain ⟨-, u2, u3, -, u5, u6⟩ := ha
    have hKu : KP s u := KPs hM u (by simp)
    have hU := unS_aft hT.2.1 hKu hB
    have e8 : v.1 8 = s.1 8 := (hx.1 8 (by decide) (by decide)).trans rfl
    have nod : ∀ f, (f = 9 ∨ f = 10 ∨ f = 11) → ∀ x, x < s.1 8 → v.2 f x = (unS s u).2 f x := fun f hf x hx' => by
      rw [hx.nod (f := f) (by omega) (by simp; omega) (by omega)]
      show (undU s u).2 f x = (if f = 12 ∨ f = 13 ∨ f = 14 then u.2.2 f else (undU s u).2 f) x
      rw [if_neg (by omega)]
    have KIu : KIs (unS s u) := KIs_e hM.1.2.1 rfl ⟨unS_o (by decide), unS_o (by decide), unS_o (by decide), unS_o (by decide)⟩
    have r1 : R1 A e v u.1 := R1_cg hDK.1 hU.1 hS hU.2.1 KIu (by rw [e8]; rfl) ((hx.1 16 (by decide) (by decide)).trans rfl) ((hx.1 2 (by decide) (by decide)).trans rfl) (fun x x0 x1 => ⟨nod 9 (by omega) x x1, nod 10 (by omega) x x1, nod 11 (by omega) x x1⟩) (fun k k0 k1 => by
      have hk2 : (unS s u).1 2 = s.1 2 := rfl
      have hn := hM.1.2.1.1
      rw [unS_o (f := 4) (by decide), unS_o (f := 5) (by decide), unS_o (f := 6) (by decide), unS_o (f := 7) (by decide)]
      have hi : ∀ f, (f = 4 ∨ f = 5 ∨ f = 6 ∨ f = 7) → ¬ scI f k := fun f q => by unfold scI; omega
      have un : ∀ f, f ≠ 10 → (undU s u).2 f k = s.2 f k := fun f hf => by
        show (if f = 10 ∧ k ∈ fl u.1 then u.2.2 10 k else s.2 f k) = s.2 f k
        rw [if_neg (fun q => hf q.1)]
      rw [hx.2 4 (by decide) (by decide) k (hi 4 (by decide)), hx.2 5 (by decide) (by decide) k (hi 5 (by decide)), hx.2 6 (by decide) (by decide) k (hi 6 (by decide)), hx.2 7 (by decide) (by decide) k (hi 7 (by decide)), un 4 (by decide), un 5 (by decide), un 6 (by decide), un 7 (by decide)]
      exact ⟨rfl, rfl, rfl, rfl⟩)
    have un2 : ∀ f, f ≠ 10 → (undU s u).2 f = s.2 f := fun f hf => by
      funext k
      show (if f = 10 ∧ k ∈ fl u.1 then u.2.2 10 k else s.2 f k) = s.2 f k
      rw [if_neg (fun q => hf q.1)]
    have sb : SBX (unS s u) v := ⟨⟨(hx.1 71 (by decide) (by decide)).trans rfl, fun i _ _ => by rw [hx.row (f := 72) (by decide) (by decide) (by decide), unS_o (by decide), un2 72 (by decide)]⟩, (hx.1 0 (by decide) (by decide)).trans rfl, fun f _ _ => by rw [hx.row (f := 1) (by decide) (by decide) (by decide), unS_o (by decide), un2 1 (by decide)]⟩
    have hDK' : DKc A e v u.1 K0 Sh := ⟨r1, ⟨hDK.2.1.1.sb sb, hDK.2.1.2.1.sb sb, hDK.2.1.2.2⟩, hDK.2.2⟩
    have e35 : v.1 35 ≠ 0 := by
      rw [hx.1 35 (by decide) (by decide)]
      show (1 : Int) ≠ 0
      decide
    refine ⟨rfl, PAIR_up ⟨A, u.1, K0, Sh, V, W, hM', hDK', WKD_x d2' hX u2 unY_w.1 unY_w.2.1 (w183 hX u2 (by decide) acR_w.2) EXT.rf ⟨(hx.1 56 (by decide) (by decide)).trans rfl, (hx.1 60 (by decide) (by decide)).trans rfl, (hx.1 61 (by decide) (by decide)).trans rfl⟩ (fun b hb => by rw [nod 9 (by omega) b hb, unS_o (by decide)]) (by omega), DLK_und d3 d1.1.1.2.1 u2 u3 u5 e35 e8 u6⟩ (by omega), RQ_cx hX u2 unY_w.1 u3 (by decide) (by decide)⟩
theorem ps_shelve (h : PAIR n s c) (hd : 400 ≤ d) (hd2 : 400 ≤ d2) : cm iv L h0 d 113 [vr 307, vi z] s (qi fun r s' => ∀ h0', ck iv L h0' d2 19 [vr 64, vi z] c (qi (PQ (n + 1) c r s'))) := by
  obtain ⟨A, t, K, Sh, V, W, hM, hD⟩ := h
  have hT := hM.1.1
  have hX := hD.1.1.1.1
  refine shelve_ok hT.1 hT.2.1 hM.1.2.2.1 hT.2.2 hM.2.2.1.2 (by omega) (fun hp h0' => ?_) (fun hp w hx hS h0' => ?_)
  · exact shelve_c hD.1.1 hT hD.1.2.2.2 (by omega) (fun _ => ⟨rfl, PAIR_up ⟨A, t, K, Sh, V, W, hM, hD⟩ (by omega), RQ.rf⟩) (fun q => absurd q hp)
  · refine shelve_c hD.1.1 hT hD.1.2.2.2 (by omega) (fun q => absurd hp q) (fun _ e ha hx2 hr2 => ?_)
    have hM' : MS n w t K (shP Sh z (sq (s.1 16) t, s)) V W := MS_g hM hx (by decide) (by decide) (hT.x hx (by decide) (by decide)) (KIs_x hM.1.2.1 hx (by decide) (by decide)) (BX_x hM.2.1.1 hx (by decide) (by decide) (by rw [hx.1 8 (by decide) (by decide)]; exact Int.le_refl _)) (hM.2.1.2.x hx (by decide)) hS
    have hDK := DKc.shl hD.1 hT.1 hM.2.1.1 (KPs hM) hx2 ha
    have sb := SBX_x hx (by decide) (by decide)
    have r1 := R1_sx hDK.1 hT.1 hM'.1.1.1 hT.2.1 hM.1.2.1 hx (by decide) (by decide)
    have np : NPY shY shR := ⟨fun y => ⟨by unfold shY; simp, by unfold shY; simp⟩, ⟨by decide, by decide⟩, by decide, by decide, by decide, by decide⟩
    have := oth_pair hM hD hM' hx2 hr2 hx np ⟨fun y => by unfold shY; simp, ⟨by decide, by decide⟩, fun k => by unfold shY; simp, fun k => by unfold shY; simp, by decide⟩ ⟨by decide, by decide⟩ (by decide) (by decide) ⟨r1, ⟨hDK.2.1.1.sb sb, hDK.2.1.2.1.sb sb, hDK.2.1.2.2⟩, hDK.2.2⟩
    exact ⟨rfl, PAIR_up this.1 (by omega), this.2⟩
end
end
section
/-! The reason of a name is told of names alone. -/
def Q1 (so : Int → Int) (J : JT) : Prop := ∀ x, J.2.2 x = 1 → so x = 3
theorem q_jsr {so : Int → Int} {J : JT} {b z : Int} (h : Q1 so J) (hz : z ≠ 1) : Q1 so (jsr J b z) := fun x hx => by
  have hx : (if x = b then z else J.2.2 x) = 1 := hx
  by_cases e : x = b
  · rw [if_pos e] at hx; exact absurd hx hz
  · rw [if_neg e] at hx; exact h x hx
theorem q_jsn {so : Int → Int} {J : JT} {b z : Int} (h : Q1 so J) (hz : z ≠ 1) : Q1 so (jsn J b z) := by
  unfold jsn
  split
  · exact q_jsr h hz
  · exact h
theorem q_jin {so : Int → Int} {J : JT} {b : Int} {A : Option Term} (h : Q1 so J) : Q1 so (jin b A J) := fun x hx => by
  have hx : (if x = b then (0 : Int) else J.2.2 x) = 1 := hx
  by_cases e : x = b
  · rw [if_pos e] at hx; cases hx
  · rw [if_neg e] at hx; exact h x hx
theorem q_jen {so : Int → Int} {M : JT × Term} {sb b : Int} {A : Option Term} (h : Q1 so M.1) : Q1 so (jen sb b A M).1 := by
  show Q1 so (jcl sb b A M.2 (jmd b M.2 M.1))
  have h0 : Q1 so (jmd b M.2 M.1) := h
  cases A with
  | none => exact h0
  | some a =>
    by_cases e : (jmd b M.2 M.1).2.2 b = 0 ∧ sb ≠ 10 ∧ sb ≠ 11 ∧ kmt a M.2 = false
    · rw [jcl_y e]; exact q_jsr h0 (by decide)
    · rw [jcl_z e]; exact h0
def QJ1 (so : Int → Int) (r : JF) : Prop := ∀ A J, Q1 so J → Q1 so (r A J).1
theorem q_jdf {so : Int → Int} {r0 : JF} {b : Int} {k : Term} {A : Option Term} {J : JT} (h : QJ1 so r0) (hJ : Q1 so J) : Q1 so (jdf r0 b k A J).1 := by
  unfold jdf
  split
  · refine q_jsr (h _ _ hJ) ?_
    split <;> decide
  · exact h _ _ hJ
theorem q_jus {so : Int → Int} {r0 r1 : JF} {p : Int} {J : JT} (h : QJ1 so r0) (h1 : QJ1 so r1) (hJ : Q1 so J) : Q1 so (jus r0 r1 p J).1 := by
  unfold jus
  split
  · exact h1 _ _ (h _ _ hJ)
  · exact h1 _ _ (h _ _ hJ)
  · exact h1 _ _ (q_jsn (h _ _ hJ) (by decide))
theorem q_jpk {so : Int → Int} {r0 r1 r2 : JF} {b : Int} {A : Option Term} {J : JT} (h : QJ1 so r0) (h1 : QJ1 so r1) (h2 : QJ1 so r2) (hJ : Q1 so J) : Q1 so (jpk r0 r1 r2 b A J).1 := by
  unfold jpk
  split
  · exact h2 _ _ (h1 _ _ (h _ _ hJ))
  · split
    · exact h2 _ _ (h1 _ _ (h _ _ hJ))
    · exact q_jsr (h2 _ _ (h1 _ _ (h _ _ hJ))) (by decide)
theorem q_jpr {so : Int → Int} {r0 r1 : JF} {A : Option Term} {J : JT} (h : QJ1 so r0) (h1 : QJ1 so r1) (hJ : Q1 so J) : Q1 so (jpr r0 r1 A J).1 := by
  unfold jpr
  split
  · exact h1 _ _ (h _ _ hJ)
  · exact h1 _ _ (h _ _ hJ)
theorem q_jhf {so : Int → Int} {r0 : JF} {p sb : Int} {J : JT} (h : QJ1 so r0) (hJ : Q1 so J) : Q1 so (jhf r0 p sb J).1 := by
  unfold jhf
  split
  · exact h _ _ hJ
  · exact h _ _ hJ
  · exact q_jsn (h _ _ hJ) (by decide)
theorem pO_0 {z : Int} (h0 : 0 ≤ z) (h1 : z < 16) (h : pO z = 0) : z ≤ 3 := by
  rcases (show z = 0 ∨ z = 1 ∨ z = 2 ∨ z = 3 ∨ z = 4 ∨ z = 5 ∨ z = 6 ∨ z = 7 ∨ z = 8 ∨ z = 9 ∨ z = 10 ∨ z = 11 ∨ z = 12 ∨ z = 13 ∨ z = 14 ∨ z = 15 by omega) with e | e | e | e | e | e | e | e | e | e | e | e | e | e | e | e <;> rw [e] at h ⊢ <;> first | decide | (exact absurd h (by decide))
theorem jd_one {so nu td pa up pl : Int → Int} {kk : Int → Term} {bd : Int → Int → Int} {B : Int} : ∀ (n : Nat) (t : Term), SizeOf.sizeOf t < n → AT so pa up pl B t → full so t → QJ1 so (jd so nu td pa kk bd t) := by
  intro n
  induction n with
  | zero => intro t h; omega
  | succ n ih =>
    intro t hn hA hf A J hJ
    cases t with
    | index b =>
      have h3 : so b ≤ 3 := pO_0 hA.2.1 hA.2.2 hf.symm
      have h0 := hA.2.1
      rw [jd_0]
      refine q_jen ?_
      by_cases e0 : so b = 0
      · rw [if_pos e0]; exact q_jin hJ
      · rw [if_neg e0]
        by_cases e1 : so b = 1
        · rw [if_pos e1]; exact q_jin hJ
        · rw [if_neg e1]
          by_cases e2 : so b = 2
          · rw [if_pos e2]; exact q_jin hJ
          · rw [if_neg e2]
            unfold jnm
            split
            · intro x hx
              have hx : (if x = (b : Int) then (1 : Int) else (jin b A J).2.2 x) = 1 := hx
              by_cases e : x = b
              · rw [e]; omega
              · rw [if_neg e] at hx
                exact q_jin hJ x hx
            · split
              · exact q_jin hJ
              · exact q_jin hJ
    | add t1 y =>
      simp only [Term.add.sizeOf_spec] at hn
      have qy := ih y (by omega) hA.2.1 hA.2.2.1
      cases t1 with
      | index b =>
        rw [jd_1]
        refine q_jen ?_
        split
        · exact q_jdf qy (q_jin hJ)
        · split
          · exact qy _ _ (q_jin hJ)
          · exact q_jhf qy (q_jin hJ)
      | add t2 x =>
        simp only [Term.add.sizeOf_spec] at hn
        have qx := ih x (by omega) hA.1.2.1 hA.1.2.2.1
        cases t2 with
        | index b =>
          rw [jd_2]
          refine q_jen ?_
          split
          · exact q_jus qx qy (q_jin hJ)
          · split
            · exact qy _ _ (qx _ _ (q_jin hJ))
            · split
              · exact q_jpr qx qy (q_jin hJ)
              · exact qy _ _ (qx _ _ (q_jin hJ))
        | add t3 z =>
          simp only [Term.add.sizeOf_spec] at hn
          have qz := ih z (by omega) hA.1.1.2.1 hA.1.1.2.2.1
          cases t3 with
          | index b =>
            rw [jd_3]
            exact q_jen (q_jpk qz qx qy (q_jin hJ))
          | add t4 w =>
            exfalso
            have h1 := hA.2.2.2.1
            have h2 := na_ge t4
            have h3 : na (Term.add (.add (.add t4 w) z) x) = na t4 + 1 + 1 + 1 := rfl
            have h4 := pO_in (so (hd (Term.add (.add (.add t4 w) z) x)))
            omega
          | _ => exact hA.1.1.1.elim
        | _ => exact hA.1.1.elim
      | _ => exact hA.1.elim
    | _ => exact hA.elim
theorem jdg_one {s : SM} {t : Term} (hS : SHT s t) {x : Int} (h : (jdg s t).2.2 x = 1) : s.2 9 x = 3 :=
  jd_one (SizeOf.sizeOf t + 1) t (Nat.lt_succ_self _) hS.1 hS.2.1 none J0 (fun x hx => by cases hx) x h
end
section
/-! Steps of the pair: work, resume. -/
section
variable {iv : List (Int × Int)} {L : Nat} {h0 : MH} {A A' : Int → Nat} {c e : SC} {s s1 w v σ : SM} {t t' : Term} {n n' : Int} {K K' : List Snap} {Sh Sh' : Int → Option Snap} {V : Term} {W : List (Int × Int)} {ey ef : List Nat} {ys : List (Nat × Nat)} {rs : List Nat} {d d2 p q r : Nat} {b i so z k f hf : Int} {R : RS}
theorem dgr_of (hM : MS n s t K Sh V W) (hD : DKc A c s t K Sh) (hz : 0 ≤ z ∧ z ≤ 300) (hh : hf = 0 ∨ hf = 1) (hσ : BGW s t z hf σ) : DGR A c σ t ∧ (jdg σ t = jdg s t) ∧ σ.2 9 = s.2 9 ∧ σ.1 8 = s.1 8 := by
  have hT := hM.1.1
  obtain ⟨⟨x1, x2, x3⟩, -⟩ := BGW_X hT hM.2.2.2.1.1 hz hh hσ
  obtain ⟨b1, b2, b3, b4, -⟩ := hσ
  have ej : jdg σ t = jdg s t := jdg_x hT.1 x1 hT.2.1 hM.1.2.1 b2 (by decide) (by decide)
  have e9 : σ.2 9 = s.2 9 := b1.2 9 (by decide)
  refine ⟨⟨⟨R1_sx hD.1 hT.1 x1 hT.2.1 hM.1.2.1 b2 (by decide) (by decide), x1, x2, x3⟩, fun b hb => ?_⟩, ej, e9, b1.1 8 (by decide)⟩
  rw [ej, b4 b hb, e9]
  exact ⟨rfl, fun h => jdg_one hT.1 h⟩
theorem jdg_nn (hD : R1 A c s t) : ∀ x, x ∈ fl t → 0 ≤ (jdg s t).2.2 x ∧ fI c (A x) 10 = (jdg s t).2.2 x := fun x hx => by
  obtain ⟨-, -, -, -, -, hJx⟩ := hD
  obtain ⟨-, -, g1, g2, g3⟩ := hJx x hx
  exact ⟨g2, g1⟩
theorem wq_w : NPY [] [] := NPY_0
/-- behind a working, on both sides -/
theorem wk_pair (hM : MS n s t K Sh V W) (hD : DKc A c s t K Sh ∧ WKD A c s V ∧ DLK A c s t W) (hz : 0 ≤ z ∧ z ≤ 300) (hh : hf = 0 ∨ hf = 1) (hσ : BGW s t z hf σ) (hR : R.2.1 = 0 ∨ 2 ≤ R.2.1) (hw : WDN s t R hf v) (hk : WKP A c e σ t p q R r) : PAIR n v e ∧ RQ c e := by
  obtain ⟨d1, d2, d3⟩ := hD
  have hX := d1.1.1.1
  have h353 := hX.2.2.1
  have hT := hM.1.1
  obtain ⟨hG, ej, e9, e8⟩ := dgr_of hM d1 hz hh hσ
  have hj := jdg_nn d1.1
  have hM' := MS_wdn hM hw hR (fun x hx => (hj x hx).1)
  obtain ⟨⟨k1, k2⟩, ⟨k3, k4⟩, ⟨k5, k6, k7, k8⟩, ⟨k9, k10⟩, k11, k12, k13⟩ := hk
  obtain ⟨wx, ⟨w1, w2, w3, w4, w5⟩, ⟨w6, w7⟩, -⟩ := id hw
  have b2 := hσ.2.1
  have hB := hT.1.2.2.2.2.1
  have xσ : SX [35, 52, 54, 55, 56, 57, 58, 59, 60, 61, 62, 63] [42, 46, 47, 48, 49, 50, 51, 53, 64, 65] σ v := (b2.sy.up (by decide) (by decide)).tr wx
  have v8 : v.1 8 = s.1 8 := wx.1 8 (by decide) (by decide)
  have v9 : ∀ b : Nat, (b : Int) < s.1 8 → v.2 9 b = s.2 9 b := fun b hb => wx.nod (Or.inl rfl) (by decide) (by omega)
  have KIσ : KIs σ := KIs_x hM.1.2.1 b2 (by decide) (by decide)
  have r1 : R1 A e v t := R1_sx k3 hG.1.2.1 hM'.1.1.1 hG.1.2.2.1 KIσ xσ (by decide) (by decide)
  have sb := SBX_x wx (by decide) (by decide)
  have dk : DKc A e v t K Sh := ⟨r1, ⟨(d1.2.1.1.x hX k1 (by decide) (by decide)).sb sb, (d1.2.1.2.1.x hX k1 (by decide) (by decide)).sb sb, d1.2.1.2.2.x hX k1 (by decide) (fun a ha => by
    have : wqR.all (fun a => decide (a < 194)) = true := by decide
    exact Or.inl (of_decide_eq_true (List.all_eq_true.mp this a ha)))⟩, d1.2.2.1.x hX EXT.rf hB.1 (KPs hM) k1 (by decide) (by decide), d1.2.2.2.x hX k1 (by decide) (fun a ha => by
    have : wqR.all (fun a => decide (a < 194)) = true := by decide
    have := of_decide_eq_true (List.all_eq_true.mp this a ha)
    omega)⟩
  have hv : hasV v ↔ R.2.1 = 0 := by
    unfold hasV
    rw [w5]
    unfold outE
    by_cases g : R.2.1 = 0
    · rw [if_pos g]
      refine ⟨fun _ => g, fun _ => ?_⟩
      cases hsL R.2.2.2 <;> simp
    · rw [if_neg g]
      omega
  have wk : WKD A e v R.2.2.2 := ⟨q, p, k4, ⟨fun h => by
    have g := hv.mp h
    obtain ⟨g1, g2, g3⟩ := k9 g
    rw [k7, wrt_cg (s := σ) g2.2.1 (fun b hb => by rw [v9 b (by omega), e9])]
    exact ⟨g1, ⟨g2.1, ⟨g2.2.1.1, VB_up (by omega) _ _ (Nat.lt_succ_self _) g2.2.1.2⟩, g2.2.2⟩, g3⟩, fun h => by rw [k7]; exact k10 (fun g => h (hv.mpr g))⟩, ⟨by rw [k5, w3], by rw [k6, w4]⟩, by
    rw [k8, w5, if_neg (by unfold outE; split; split <;> decide; omega)]⟩
  have lt : ∀ b, 0 ≤ b → b < s.1 8 → A b < nxt c ∧ kl c (A b) = 5 ∧ (A b = 73 ∨ 353 ≤ A b) := fun b b0 b1 => by
    obtain ⟨⟨n1, -⟩, n9, n10⟩ := d1.1.1.2.1.2 b b0 b1
    exact ⟨by omega, n1, n10⟩
  have y12 : ∀ k : Nat, (k, 12) ∉ wqY := fun k => by unfold wqY wzY wkY nqY; simp
  obtain ⟨l1, l2, l3, l4⟩ := d3
  have hQ : QN A e v := fun a ha hka => by
    by_cases z : a < nxt c
    · have k5' : kl c a = 5 := by rw [← k1.k z]; exact hka
      rcases l2 a z k5' with ⟨z1, z2⟩ | ⟨b, z1, z2, z3⟩
      · by_cases zn : ∃ x, x ∈ fl t ∧ a = A x
        · obtain ⟨x, y1, y2⟩ := zn
          have := mm hM x y1
          exact Or.inr ⟨x, this.1, by omega, y2⟩
        · exact Or.inl ⟨(k1.r z (y12 _)).trans z1, (k13 a z (fun x y1 y2 => zn ⟨x, y1, y2⟩)).trans z2⟩
      · exact Or.inr ⟨b, z1, by omega, z3⟩
    · exact absurd hka (k2.2.2.2 a (by omega) ha)
  have lk : DLK A e v t (wrL s t) := by
    refine ⟨⟨fun _ => w1, fun _ => k11⟩, hQ, fun b hb => ?_, fun _ => ⟨fun b b0 b1 hb => ?_, fun b hb => ?_⟩⟩
    · have := mm hM b hb
      rw [k1.r (lt b this.1 this.2).1 (y12 _)]
      exact l3 b hb
    · rw [w6 b b0 (by omega)] at hb
      omega
    · rw [k12 b hb, ej]
      unfold wrL
      exact (thW_map.1 hb).symm
  exact ⟨⟨A, t, K, Sh, R.2.2.2, wrL s t, hM', dk, wk, lk⟩, RQ_mp k2⟩
theorem ps_work (h : PAIR n s c) (hdd : 400 ≤ d) (hd2 : 400 ≤ d2) : cm iv L h0 d 136 [vr 307, vi z] s (qi fun r s' => ∀ h0', ck iv L h0' d2 24 [vr 64, vi z] c (qi (PQ (n + 1) c r s'))) := by
  obtain ⟨A, t, K, Sh, V, W, hM, hD⟩ := h
  have hT := hM.1.1
  obtain ⟨p, q, hp, -⟩ := hD.2.1
  obtain ⟨d2, rfl⟩ : ∃ k, d2 = k + 1 := ⟨d2 - 1, by omega⟩
  refine work_ok hT hM.1.2.1 hM.2.2.2.1.1 (by omega) (fun hz h0' => ?_) (fun σ v hz hσ hw h0' => ?_)
  · exact dwork_no hz ⟨rfl, PAIR_up ⟨A, t, K, Sh, V, W, hM, hD⟩ (by omega), RQ.rf⟩
  · obtain ⟨hG, ej, e9, e8⟩ := dgr_of hM hD.1 hz (Or.inl rfl) hσ
    have e15 : s.1 15 = hd t := hT.1.2.2.2.2.2.1.symm
    rw [e15] at hw ⊢
    have hTσ := hG.1.2.1
    have top : hd t ∈ fl t := by
      have := top_mem hT.1
      rwa [e15] at this
    have bT : ∀ x, bds σ (hd t) x = -9 := fun x => by
      show bnd (σ.2 9) (σ.2 10) (σ.2 12) (σ.2 13) 70 (hd t) x = -9
      unfold bnd
      rw [if_pos hTσ.2.2.2.2.2.2.1]
    have cv : cov σ (hd t) (nulE 26) := fun x _ _ hx => absurd (bT x) hx
    have hRO := evw_okw hTσ hG.1.2.2.1 hG.1.2.2.2 z 60 (hd t) (nulE 26) 0 top (nulE_is 26) (nulE_VG 26) cv hz.1
    refine dwork_c hG hp hz (by omega) (fun e r hk => ?_)
    have := wk_pair hM hD hz (Or.inl rfl) hσ (hRO.2.1.elim Or.inl (fun g => Or.inr g.1)) hw hk
    exact ⟨rfl, PAIR_up this.1 (by omega), this.2⟩
theorem ar_th (hW : wfW s W) (hD : DLK A c s t W) (h35 : s.1 35 = 0) : thn A c s t = 0 ↔ arS s t W = true := by
  obtain ⟨-, -, -, h4⟩ := hD
  have h4 := (h4 h35).2
  have key : (∀ x, x ∈ fl t → ¬ (fI c (A x) 11 ≠ -9 ∧ fI c (A x) 11 ≠ (jdg s t).2.2 x)) ↔ arS s t W = true := by
    unfold arS arP
    rw [List.all_eq_true]
    refine ⟨fun h a ha => List.all_eq_true.mpr (fun x hx => decide_eq_true (fun e => ?_)), fun h x hx q => ?_⟩
    · have g := hW a ha
      have h' := h x hx
      rw [h4 x hx, e, g.1] at h'
      rw [e]
      omega
    · rw [h4 x hx] at q
      by_cases z : ∃ a, a ∈ W ∧ a.1 = x
      · obtain ⟨a, ha, e⟩ := z
        have := of_decide_eq_true (List.all_eq_true.mp (h a ha) x hx) e.symm
        rw [← e, (hW a ha).1, e] at q
        omega
      · exact q.1 (thW_no (fun a ha e => z ⟨a, ha, e⟩))
  rw [← key]
  unfold thn
  constructor
  · intro h x hx q
    rw [if_pos (List.any_eq_true.mpr ⟨x, hx, decide_eq_true q⟩)] at h
    omega
  · intro h
    rw [if_neg]
    intro g
    obtain ⟨x, hx, q⟩ := List.any_eq_true.mp g
    exact h x hx (of_decide_eq_true q)
theorem ps_resume (h : PAIR n s c) (hdd : 400 ≤ d) (hd2 : 400 ≤ d2) : cm iv L h0 d 138 [vr 307, vi z] s (qi fun r s' => ∀ h0', ck iv L h0' d2 25 [vr 64, vi z] c (qi (PQ (n + 1) c r s'))) := by
  have hP := h
  obtain ⟨A, t, K, Sh, V, W, hM, hD⟩ := h
  have hT := hM.1.1
  have hR1 := hD.1.1
  have hV := hM.2.2.2.2.1.2
  have hWf := hM.2.2.2.2.2.2
  obtain ⟨p, q, hp, ⟨v1, v2⟩, -⟩ := hD.2.1
  obtain ⟨d2, rfl⟩ : ∃ k, d2 = k + 1 := ⟨d2 - 1, by omega⟩
  have i15 := hD.2.2.1
  refine resume_ok hT hM.1.2.1 hM.2.2.2.1.1 (by omega) hM.2.2.2.2.2.1 hV (fun hz h0' => ?_) (fun hz hq h0' => ?_) (fun w hz hq ha hw h0' => ?_) (fun σ v hz hq ha hσ hw h0' => ?_)
  · exact dres_no hz ⟨rfl, PAIR_up hP (by omega), RQ.rf⟩
  · refine dres_4 hR1 hT.1 hz ?_ ⟨rfl, PAIR_up hP (by omega), RQ.rf⟩
    by_cases g : hasV s
    · exact Or.inr (Or.inl (fun w => hq ⟨g, i15.1 w⟩))
    · exact Or.inl (v2 g)
  · refine dres_4 hR1 hT.1 hz (Or.inr (Or.inr (fun w => ?_))) ⟨rfl, PAIR_up (PAIR_sx hP hw.2.1) (by omega), RQ.rf⟩
    rw [(ar_th hWf hD.2.2 hq.2).1 w] at ha
    cases ha
  · obtain ⟨hB, hVH, hO, hN⟩ := hV hq.1 hq.2
    have hh : 1 - s.1 55 = 0 ∨ 1 - s.1 55 = 1 := by have := hB.1; omega
    obtain ⟨hG, ej, e9, e8⟩ := dgr_of hM hD.1 hz hh hσ
    have hE := hσ.1
    have e42 : σ.2 42 = s.2 42 := hE.2 42 (by decide)
    have hTσ := hG.1.2.1
    have hNσ : FN σ t := fun y hy hs => by
      rw [e42]
      exact hN y hy (by rw [← e9]; exact hs)
    have hOσ : VO σ t V := by
      show VG σ t (tgt σ t) V
      rw [tgt_e e42]
      exact VG_e e8 e9 (hE.2 10 (by decide)) (hE.2 12 (by decide)) (hE.2 13 (by decide)) hO
    have hRO := (evw_ok hTσ hG.1.2.2.1 hG.1.2.2.2 hNσ z 60).2 V 0 hVH.1 hOσ hz.1
    have hth : thn A c σ t = 0 := by
      unfold thn
      rw [ej]
      exact (ar_th hWf hD.2.2 hq.2).2 ha
    obtain ⟨g1, ⟨⟨g2, -⟩, -, g3⟩, -⟩ := v1 hq.1
    have hL : FLK A c σ t := by
      obtain ⟨-, -, l3, l4⟩ := hD.2.2
      refine ⟨fun b b0 b1 hb => ?_, fun b b0 b1 => ?_, l3⟩
      · rw [e42] at hb ⊢
        exact (l4 hq.2).1 b b0 (by omega) hb
      · rw [e42, e8]
        exact hM.2.2.2.1.1 b b0 (by omega)
    refine dres_c hG hp hz (by omega) hNσ hL (i15.2 hq.2) hth ⟨rfl, g1⟩ ⟨hVH.1, hOσ⟩ g3 (fun e r hk => ?_)
    have := wk_pair hM hD hz hh hσ (hRO.2.1.elim Or.inl (fun g => Or.inr g.1)) hw hk
    exact ⟨rfl, PAIR_up this.1 (by omega), this.2⟩
end
end
section
/-! A step of the pair: fill. -/
section
variable {iv : List (Int × Int)} {L : Nat} {h0 : MH} {A A' : Int → Nat} {c e : SC} {s w v : SM} {t t' : Term} {n : Int} {K K' : List Snap} {Sh : Int → Option Snap} {V : Term} {W : List (Int × Int)} {d d2 : Nat} {z : Int} {u : Snap}
theorem fil_pair (hM : MS n s t K Sh V W) (hD : DKc A c s t K Sh ∧ WKD A c s V ∧ DLK A c s t W) (hq : filF s t Sh z = 0) (hSp : Sh z = some u) (hF : FDONE s t K u v) (ha : FIL A c s t K u e) : PAIR n v e ∧ RQ c e := by
  obtain ⟨d1, d2', d3⟩ := hD
  have hT := hM.1.1
  have hX := d1.1.1.1
  have hB := hT.1.2.2.2.2.1
  obtain ⟨z0, z1, z2⟩ : (0 ≤ z ∧ z < 6) ∧ s.2 9 (s.1 16) = 0 ∧ ((fl t).length - 1 + (fl u.1).length ≤ 60 ∧ s.1 8 + (fl u.1).length ≤ 3000) := by
    have fn : filN s Sh z = (fl u.1).length := by unfold filN; rw [hSp]
    unfold filF at hq
    rw [fn] at hq
    split at hq
    · rename_i q1
      split at hq
      · rename_i q2
        split at hq
        · cases hq
        · split at hq
          · cases hq
          · exact ⟨q1, q2, by omega⟩
      · cases hq
    · cases hq
  obtain ⟨s1, s2⟩ := hM.2.2.1.2 z z0.1 z0.2
  obtain ⟨b1, b2, b3⟩ := s2 u hSp
  have hpos := List.length_pos_of_mem (hd_mem _ b2.1)
  have hbear : ∀ x, x ∈ fl u.1 → bearOk (s.1 2) (u.2.2 9 x) (u.2.2 10 x) (u.2.2 11 x) := fun x hx => by
    obtain ⟨k, hk1, hk2⟩ := List.mem_iff_getElem.mp hx
    exact (b3 k x (by rw [List.getElem?_eq_getElem hk1, hk2])).2
  obtain ⟨A', st, g1, g2, g3, g4, g5, g6, g7, g8, g9⟩ := DKc.fil d1 hT hM.2.1.1 ha
  have hAf := fil_aft g2 hT b2 hbear z2
  obtain ⟨⟨v8, v16, v2⟩, vo, vn⟩ := fil_old g2 hT
  have hM' := MS_fil hM z0 hSp z1 hF
  obtain ⟨hx, ⟨w1, w2, w3⟩, w4, w5, w6, w7, w8, w9, w10, w11⟩ := hF
  have fr : ∀ f, f ≠ 9 ∧ f ≠ 10 ∧ f ≠ 11 ∧ f ≠ 12 ∧ f ≠ 13 ∧ f ≠ 14 → (filV s st).2 f = s.2 f := fun f hf => by
    rw [filV_o ⟨hf.2.2.2.1, hf.2.2.2.2.1, hf.2.2.2.2.2⟩]
    exact g2.2.1.2 f (by simp; omega)
  have KIf : KIs (filV s st) := KIs_e hM.1.2.1 v2 ⟨fr 4 (by decide), fr 5 (by decide), fr 6 (by decide), fr 7 (by decide)⟩
  have r1 : R1 A' e v (filT s t u) := R1_cg g1.1 hAf.1 w8.1 hAf.2.1 KIf (w1.trans v8.symm) (w2.trans v16.symm) ((hx.1 2 (by decide) (by decide)).trans v2.symm) (fun x x0 x1 => by
    by_cases q : x < s.1 8
    · obtain ⟨p1, p2, p3⟩ := w4 x q
      obtain ⟨q1, q2, q3⟩ := vo x q
      rw [p1, p2, p3, q1, q2, q3]
      exact ⟨rfl, rfl, rfl⟩
    · obtain ⟨j, hj⟩ : ∃ j : Nat, x = s.1 8 + j := ⟨(x - s.1 8).toNat, by omega⟩
      have hg := List.getElem?_eq_getElem (show j < (fl u.1).length by omega)
      obtain ⟨p1, p2, p3⟩ := w5 j _ hg
      obtain ⟨q1, q2, q3⟩ := vn j _ hg
      rw [hj, p1, p2, p3, q1, q2, q3]
      exact ⟨rfl, rfl, rfl⟩) (fun k k0 k1 => by
    have hn := hM.1.2.1.1
    have hi : ∀ f, (f = 4 ∨ f = 5 ∨ f = 6 ∨ f = 7) → ¬ scI f k := fun f q => by unfold scI; omega
    rw [hx.2 4 (by decide) (by decide) k (hi 4 (by decide)), hx.2 5 (by decide) (by decide) k (hi 5 (by decide)), hx.2 6 (by decide) (by decide) k (hi 6 (by decide)), hx.2 7 (by decide) (by decide) k (hi 7 (by decide)), fr 4 (by decide), fr 5 (by decide), fr 6 (by decide), fr 7 (by decide)]
    exact ⟨rfl, rfl, rfl, rfl⟩)
  have e71 : (filV s st).1 71 = s.1 71 := (replU_e.1 71 (by decide)).trans (g2.2.1.1 71 (by decide))
  have e0 : (filV s st).1 0 = s.1 0 := (replU_e.1 0 (by decide)).trans (g2.2.1.1 0 (by decide))
  have sb : SBX (filV s st) v := ⟨⟨(hx.1 71 (by decide) (by decide)).trans e71.symm, fun i _ _ => by rw [hx.row (f := 72) (by decide) (by decide) (by decide), fr 72 (by decide)]⟩, (hx.1 0 (by decide) (by decide)).trans e0.symm, fun f _ _ => by rw [hx.row (f := 1) (by decide) (by decide) (by decide), fr 1 (by decide)]⟩
  have dk : DKc A' e v (filT s t u) (push K (t, s)) Sh := ⟨r1, ⟨g1.2.1.1.sb sb, g1.2.1.2.1.sb sb, g1.2.1.2.2⟩, g1.2.2⟩
  have h35 : v.1 35 = 0 ↔ s.1 35 = 0 := by
    rw [w3]
    unfold chg
    by_cases q : s.1 35 = 0
    · rw [if_neg (fun w => w q), if_pos (by decide)]; exact ⟨fun _ => q, fun _ => rfl⟩
    · rw [if_pos q]; exact ⟨fun w => absurd w (by decide), fun w => absurd w q⟩
  have mem := fil_mem hT.1 hT.2.2 z1 b2.1
  refine ⟨⟨A', filT s t u, push K (t, s), Sh, V, W, hM', dk, WKD_x d2' hX g5 unY_w.1 unY_w.2.1 (w183 hX g5 (by decide) acR_w.2) g3 ⟨hx.1 56 (by decide) (by decide), hx.1 60 (by decide) (by decide), hx.1 61 (by decide) (by decide)⟩ (fun b hb => (w4 b hb).1) (by omega), DLK_fil d3 hX d1.1.1.2.1 r1.1.2.1 g3 g5 g6 ⟨by omega, by omega⟩ g7 h35 (mm hM) hT.2.2 (fun x hx' => ?_) g8 g9 w6 hM.2.2.2.1.1 hM.2.2.2.1.2 (by omega) hM.2.2.2.2.2.2⟩, RQ_cx hX g5 unY_w.1 g4 (by decide) (by decide)⟩
  rcases (mem x).mp hx' with q | q
  · exact ⟨by have := mm hM x q.1; omega, Or.inl q⟩
  · exact ⟨by omega, Or.inr q.1⟩
theorem ps_fill (h : PAIR n s c) (hn : n ≤ 512) (hdd : 400 ≤ d) (hd2 : 400 ≤ d2) : cm iv L h0 d 115 [vr 307, vi z] s (qi fun r s' => ∀ h0', ck iv L h0' d2 20 [vr 64, vi z] c (qi (PQ (n + 1) c r s'))) := by
  have hP := h
  obtain ⟨A, t, K, Sh, V, W, hM, hD⟩ := h
  have hT := hM.1.1
  have hr := fnd_b (f := 1) hM hD.1 hn (by decide)
  have go : ∀ (k : Nat) (F : Int → SC → Prop) (h0' : MH), filF s t Sh z = k → (k = 1 → F (-1) c) → (k = 2 → F (-4) c) → (k = 3 → F (-3) (refC c 1)) → (k = 4 → F (-2) c) → (k = 0 → ∀ u, Sh z = some u → ∀ e, FIL A c s t K u e → F (s.1 8) e) → ck iv L h0' d2 20 [vr 64, vi z] c (qi F) := fun k F h0' e f1 f2 f3 f4 f0 => fill_c hD.1.1 hT hM.1.2.1 hD.1.2.2.1 (KPs hM) hD.1.2.2.2 hM.2.2.1.2 hr (by omega) (fun q => f1 (e.symm.trans q)) (fun q => f2 (e.symm.trans q)) (fun q => f3 (e.symm.trans q)) (fun q => f4 (e.symm.trans q)) (fun u q hu e' ha => f0 (e.symm.trans q) u hu e' ha)
  refine fill_ok hT hM.2.1.2 (by omega) hM.2.2.1.2 hM.2.2.1.1 (by omega) (fun q h0' => ?_) (fun q h0' => ?_) (fun q h0' => ?_) (fun w q hx h0' => ?_) (fun u v q hSp hF h0' => ?_)
  · exact go 1 _ h0' q (fun _ => ⟨rfl, PAIR_up hP (by omega), RQ.rf⟩) (fun w => absurd w (by decide)) (fun w => absurd w (by decide)) (fun w => absurd w (by decide)) (fun w => absurd w (by decide))
  · exact go 2 _ h0' q (fun w => absurd w (by decide)) (fun _ => ⟨rfl, PAIR_up hP (by omega), RQ.rf⟩) (fun w => absurd w (by decide)) (fun w => absurd w (by decide)) (fun w => absurd w (by decide))
  · have := ref_pair (f := 1) hM hD (by decide)
    exact go 3 _ h0' q (fun w => absurd w (by decide)) (fun w => absurd w (by decide)) (fun _ => ⟨rfl, this.1, this.2⟩) (fun w => absurd w (by decide)) (fun w => absurd w (by decide))
  · exact go 4 _ h0' q (fun w => absurd w (by decide)) (fun w => absurd w (by decide)) (fun w => absurd w (by decide)) (fun _ => ⟨rfl, PAIR_up (PAIR_sx hP hx) (by omega), RQ.rf⟩) (fun w => absurd w (by decide))
  · refine go 0 _ h0' q (fun w => absurd w (by decide)) (fun w => absurd w (by decide)) (fun w => absurd w (by decide)) (fun w => absurd w (by decide)) (fun _ u' hu ec ha => ?_)
    obtain rfl : u = u' := by rw [hSp] at hu; injection hu
    have := fil_pair hM hD q hSp hF ha
    exact ⟨rfl, PAIR_up this.1 (by omega), this.2⟩
end
end
section
/-! Steps of the pair: looks. -/
section
variable {iv : List (Int × Int)} {L : Nat} {h0 : MH} {A A' : Int → Nat} {c e : SC} {s w v : SM} {t t' : Term} {n : Int} {K K' : List Snap} {Sh : Int → Option Snap} {V : Term} {W : List (Int × Int)} {ys : List (Nat × Nat)} {rs : List Nat} {d d2 : Nat} {z b i k q x f r : Int}
theorem same_pair (h : PAIR n s c) (hx : SX [] [] s w) : PQ (n + 1) c r w r c := ⟨rfl, PAIR_up (PAIR_sx h hx) (by omega), RQ.rf⟩
theorem shl_p (hM : MS n s t K Sh V W) : ∀ p, 0 ≤ p → p < 6 → 0 ≤ s.2 37 p ∧ s.2 37 p ≤ 60 := fun p p0 p6 => by
  obtain ⟨s1, s2⟩ := hM.2.2.1.2 p p0 p6
  cases e : Sh p with
  | none => rw [s1 e]; decide
  | some u =>
    obtain ⟨g1, g2, -⟩ := s2 u e
    have := g2.2.2.2
    rw [g1]
    omega
theorem shl_c (hM : MS n s t K Sh V W) (hD : DKc A c s t K Sh) : ∀ p : Nat, p < 6 → fI c (199 + 6 * p) 5 = s.2 37 p ∧ 0 ≤ s.2 37 p ∧ s.2 37 p ≤ 60 := fun p p6 => by
  refine ⟨?_, shl_p hM p (by omega) (by omega)⟩
  obtain ⟨s1, s2⟩ := hM.2.2.1.2 p (by omega) (by omega)
  obtain ⟨c1, c2⟩ := hD.2.2.2 p p6
  cases e : Sh p with
  | none => rw [s1 e, c1 e]
  | some u => rw [(s2 u e).1, (c2 u e).1]
theorem ps_nodes (h : PAIR n s c) (hdd : 410 ≤ d) (hd2 : 400 ≤ d2) : cm iv L h0 d 82 [vr 307] s (qi fun r s' => ∀ h0', ck iv L h0' d2 5 [vr 64] c (qi (PQ (n + 1) c r s'))) := by
  have hP := h
  obtain ⟨A, t, K, Sh, V, W, hM, hD⟩ := h
  exact nodes_ok hM.1.1.1 (by omega) (fun w hw h0' => nodes_c hD.1.1 (same_pair hP (SX_lay hw)))
theorem ps_cursor (h : PAIR n s c) (hdd : 410 ≤ d) (hd2 : 400 ≤ d2) : cm iv L h0 d 83 [vr 307] s (qi fun r s' => ∀ h0', ck iv L h0' d2 6 [vr 64] c (qi (PQ (n + 1) c r s'))) := by
  have hP := h
  obtain ⟨A, t, K, Sh, V, W, hM, hD⟩ := h
  exact B83 (fun h0' => cursor_c hD.1.1 hM.1.1 (same_pair hP SX.rf))
theorem ps_told (h : PAIR n s c) (hdd : 410 ≤ d) (hd2 : 400 ≤ d2) : cm iv L h0 d 94 [vr 307, vi b, vi k] s (qi fun r s' => ∀ h0', ck iv L h0' d2 7 [vr 64, vi b, vi k] c (qi (PQ (n + 1) c r s'))) := by
  have hP := h
  obtain ⟨d2, rfl⟩ : ∃ k, d2 = k + 1 := ⟨d2 - 1, by omega⟩
  obtain ⟨A, t, K, Sh, V, W, hM, hD⟩ := h
  exact told_ok hM.1.1.1 hM.1.1.2.1 hM.1.2.1 (by omega) (fun w hw h0' => told_c hD.1.1 hM.1.1.1 (same_pair hP hw))
theorem ps_sign (h : PAIR n s c) (hi : i ≤ 2147483647) (hdd : 410 ≤ d) (hd2 : 400 ≤ d2) : cm iv L h0 d 97 [vr 307, vi b, vi q, vi i] s (qi fun r s' => ∀ h0', ck iv L h0' d2 9 [vr 64, vi b, vi q, vi i] c (qi (PQ (n + 1) c r s'))) := by
  have hP := h
  obtain ⟨d2, rfl⟩ : ∃ k, d2 = k + 1 := ⟨d2 - 1, by omega⟩
  obtain ⟨A, t, K, Sh, V, W, hM, hD⟩ := h
  exact sign_ok hM.1.1.1 hM.1.1.2.1 hM.1.2.1 (by omega) (fun w hw h0' => sign_c hD.1.1 hM.1.1.1 hi (same_pair hP hw))
theorem ps_hole (h : PAIR n s c) (hdd : 410 ≤ d) (hd2 : 400 ≤ d2) : cm iv L h0 d 98 [vr 307, vi i, vi f] s (qi fun r s' => ∀ h0', ck iv L h0' d2 10 [vr 64, vi i, vi f] c (qi (PQ (n + 1) c r s'))) := by
  have hP := h
  obtain ⟨A, t, K, Sh, V, W, hM, hD⟩ := h
  exact hole_ok hM.1.1.1 hM.1.1.2.1 hM.1.2.1 (by omega) (fun w hw h0' => hole_c hD.1.1 hM.1.1.1 (same_pair hP hw))
theorem ps_part (h : PAIR n s c) (hn : n ≤ 512) (hdd : 410 ≤ d) (hd2 : 400 ≤ d2) : cm iv L h0 d 95 [vr 307, vi b, vi i] s (qi fun r s' => ∀ h0', ck iv L h0' d2 8 [vr 64, vi b, vi i] c (qi (PQ (n + 1) c r s'))) := by
  have hP := h
  obtain ⟨d2, rfl⟩ : ∃ k, d2 = k + 1 := ⟨d2 - 1, by omega⟩
  obtain ⟨A, t, K, Sh, V, W, hM, hD⟩ := h
  have hr := fnd_b (f := 2) hM hD.1 hn (by decide)
  refine part_ok hM.1.1.1 hM.2.1.2 (by omega) (by omega) (fun w hw h0' => part_c hD.1.1 hM.1.1.1 hr ?_)
  unfold parU at hw
  by_cases g : b ∈ fl t ∧ ¬ (0 ≤ i ∧ i < pO (s.2 9 b))
  · rw [if_pos g] at hw ⊢
    have := ref_pair (f := 2) hM hD (by decide)
    exact ⟨rfl, PAIR_sx this.1 hw, this.2⟩
  · rw [if_neg g] at hw ⊢
    exact same_pair hP hw
theorem ps_steps (h : PAIR n s c) (hdd : 410 ≤ d) (hd2 : 400 ≤ d2) : cm iv L h0 d 139 [vr 307] s (qi fun r s' => ∀ h0', ck iv L h0' d2 26 [vr 64] c (qi (PQ (n + 1) c r s'))) := by
  have hP := h
  obtain ⟨A, t, K, Sh, V, W, hM, hD⟩ := h
  obtain ⟨p, q, hp, hv, ⟨h3, h5⟩, h4⟩ := hD.2.1
  exact B139 (fun h0' => dsteps_c hD.1.1.1.1 (by rw [h3]; exact same_pair hP SX.rf))
theorem ps_where (h : PAIR n s c) (hdd : 410 ≤ d) (hd2 : 400 ≤ d2) : cm iv L h0 d 140 [vr 307] s (qi fun r s' => ∀ h0', ck iv L h0' d2 27 [vr 64] c (qi (PQ (n + 1) c r s'))) := by
  have hP := h
  obtain ⟨A, t, K, Sh, V, W, hM, hD⟩ := h
  obtain ⟨p, q, hp, hv, ⟨h3, h5⟩, h4⟩ := hD.2.1
  exact B140 (fun h0' => dwhere_c hD.1.1.1.1 (by rw [h5]; exact same_pair hP SX.rf))
theorem ps_value (h : PAIR n s c) (hdd : 410 ≤ d) (hd2 : 400 ≤ d2) : cm iv L h0 d 148 [vr 307, vi k] s (qi fun r s' => ∀ h0', ck iv L h0' d2 28 [vr 64, vi k] c (qi (PQ (n + 1) c r s'))) := by
  have hP := h
  obtain ⟨d2, rfl⟩ : ∃ k, d2 = k + 1 := ⟨d2 - 1, by omega⟩
  obtain ⟨A, t, K, Sh, V, W, hM, hD⟩ := h
  have h8 := hM.1.1.1.2.2.2.2.1.2
  obtain ⟨p, q, hp, ⟨v1, v2⟩, -⟩ := hD.2.1
  refine value_ok h8 hM.2.2.2.2.1.1 (by omega) (fun hn h0' => ?_) (fun w hv hw h0' => ?_)
  · exact dvalue_c (A := A) (P := YNG c p) (o := wrt s V) hD.1.1.1.1 (fun _ => same_pair hP SX.rf) (fun g => absurd (v2 hn) g)
  · obtain ⟨g1, g2, g3⟩ := v1 hv
    exact dvalue_c (A := A) (P := YNG c p) (o := wrt s V) hD.1.1.1.1 (fun g => absurd g g1) (fun _ => ⟨g3, same_pair hP (SX.eq hw (by decide) (by decide))⟩)
theorem ps_left (h : PAIR n s c) (hdd : 410 ≤ d) (hd2 : 400 ≤ d2) : cm iv L h0 d 149 [vr 307, vi k] s (qi fun r s' => ∀ h0', ck iv L h0' d2 29 [vr 64, vi k] c (qi (PQ (n + 1) c r s'))) := by
  have hP := h
  obtain ⟨d2, rfl⟩ : ∃ k, d2 = k + 1 := ⟨d2 - 1, by omega⟩
  obtain ⟨A, t, K, Sh, V, W, hM, hD⟩ := h
  have h8 := hM.1.1.1.2.2.2.2.1.2
  obtain ⟨p, q, hp, ⟨v1, v2⟩, -⟩ := hD.2.1
  have hN := NDW_of hD.1.1 hM.1.1.1
  refine left_ok h8 hM.2.2.2.2.1.1 (by omega) (fun hn h0' => ?_) (fun w hv hw h0' => ?_)
  · exact dleft_c (V := V) (P := YNG c p) hD.1.1.1.1 hN (fun g => absurd (v2 hn) g) (fun _ => same_pair hP SX.rf) (fun g => absurd (v2 hn) g)
  · obtain ⟨g1, g2, g3⟩ := v1 hv
    exact dleft_c (V := V) (P := YNG c p) hD.1.1.1.1 hN (fun _ => ⟨g2.2.1, g3⟩) (fun g => absurd g g1) (fun _ => same_pair hP (SX.eq hw (by decide) (by decide)))
theorem ps_asked (h : PAIR n s c) (hdd : 410 ≤ d) (hd2 : 400 ≤ d2) : cm iv L h0 d 156 [vr 307] s (qi fun r s' => ∀ h0', ck iv L h0' d2 35 [vr 64] c (qi (fun _ e => PAIR (n + 1) s' e ∧ RQ c e))) := by
  have hP := h
  obtain ⟨A, t, K, Sh, V, W, hM, hD⟩ := h
  exact B156 (fun h0' => asked_c hD.1.1.1.1 ⟨PAIR_up hP (by omega), RQ.rf⟩)
theorem ps_count (h : PAIR n s c) (hdd : 410 ≤ d) (hd2 : 400 ≤ d2) : cm iv L h0 d 157 [vr 307, vi k] s (qi fun r s' => ∀ h0', ck iv L h0' d2 36 [vr 64, vi k] c (qi (PQ (n + 1) c r s'))) := by
  have hP := h
  obtain ⟨d2, rfl⟩ : ∃ k, d2 = k + 1 := ⟨d2 - 1, by omega⟩
  obtain ⟨A, t, K, Sh, V, W, hM, hD⟩ := h
  obtain ⟨p, q, hp, hv, h3, h4⟩ := hD.2.1
  exact count_ok hM.1.1.1 hM.1.1.2.1 hM.1.2.1 (shl_p hM) (by omega) (fun w hw h0' => count_c hD.1.1 hM.1.1.1 (hD.1.2.2.1.1.1.trans hM.2.2.1.1.1.symm) (shl_c hM hD.1) h4 (same_pair hP hw))
theorem ps_finding (h : PAIR n s c) (hdd : 410 ≤ d) (hd2 : 400 ≤ d2) : cm iv L h0 d 62 [vr 307] s (qi fun r s' => ∀ h0', ck iv L h0' d2 37 [vr 64] c (qi (PQ (n + 1) c r s'))) := by
  have hP := h
  obtain ⟨A, t, K, Sh, V, W, hM, hD⟩ := h
  exact B62 (fun h0' => finding_c hD.1.1.1.1 hD.1.2.1.2.1 (same_pair hP SX.rf))
theorem ps_findings (h : PAIR n s c) (hdd : 410 ≤ d) (hd2 : 400 ≤ d2) : cm iv L h0 d 63 [vr 307, vi f] s (qi fun r s' => ∀ h0', ck iv L h0' d2 38 [vr 64, vi f] c (qi (PQ (n + 1) c r s'))) := by
  have hP := h
  obtain ⟨d, rfl⟩ : ∃ k, d = k + 1 := ⟨d - 1, by omega⟩
  obtain ⟨A, t, K, Sh, V, W, hM, hD⟩ := h
  exact findings_ok (fun h0' => findings_c hD.1.1.1.1 hD.1.2.1.2.1 (same_pair hP SX.rf))
theorem ps_digest (h : PAIR n s c) (hdd : 410 ≤ d) (hd2 : 400 ≤ d2) : cm iv L h0 d 158 [vr 307] s (ql fun r s' => ∀ h0', ck iv L h0' d2 39 [vr 64] c (ql (PQ (n + 1) c r s'))) := by
  have hP := h
  obtain ⟨A, t, K, Sh, V, W, hM, hD⟩ := h
  exact digest_ok hM.1.1.1 hM.1.1.2.1 hM.1.2.1 (by omega) (fun w hw h0' => digest_c hD.1.1 hM.1.1 (same_pair hP hw))
theorem ps_kindOf (h : PAIR n s c) (hdd : 410 ≤ d) (hd2 : 400 ≤ d2) : cm iv L h0 d 69 [vr 307, vi k, vi z] s (qi fun r s' => ∀ h0', ck iv L h0' d2 3 [vr 64, vi k, vi z] c (qi (PQ (n + 1) c r s'))) := by
  have hP := h
  obtain ⟨d, rfl⟩ : ∃ k, d = k + 2 := ⟨d - 2, by omega⟩
  obtain ⟨d2, rfl⟩ : ∃ k, d2 = k + 1 := ⟨d2 - 1, by omega⟩
  obtain ⟨A, t, K, Sh, V, W, hM, hD⟩ := h
  exact kindOf_ok hM.1.2.1 (fun h0' => kindOf_c hD.1.1.1.1 hD.1.1.2.2.1 hM.1.2.1 (same_pair hP SX.rf))
end
end
section
/-! Steps of the pair: meet, the cursor, the box. -/
section
variable {iv : List (Int × Int)} {L : Nat} {h0 : MH}
theorem meeting_40 {s : SM} (hs : KJ (s.1 2) 40 (s.2 4) (s.2 5) (s.2 6) (s.2 7)) : ∀ (q : Nat) (a b : Int), s.2 7 a ≤ q → vk (s.1 2) 40 a → vk (s.1 2) 40 b → cm iv L h0 q 70 [vr 307, vi a, vi b] s (qi fun r t => t = s ∧ r = if kmt (kts s a) (kts s b) then 1 else 0) := by
  have hm0 := hs.2.1
  have hn := hs.1.1
  have leaf : ∀ k, (s.2 4 k = 0 → kts s k = .null) ∧ (s.2 4 k = 1 → kts s k = .result) ∧ (s.2 4 k = 2 → kts s k = .thrown) := fun k => kt_leaf hs
  have node : ∀ k, vk (s.1 2) 40 k → (s.2 4 k = 3 → kts s k = .add (kts s (s.2 5 k)) (kts s (s.2 6 k))) ∧ (s.2 4 k = 4 → kts s k = .mul (kts s (s.2 5 k)) (kts s (s.2 6 k))) := fun k hk => kt_node hs hk
  have n0 : kts s 0 = .null := (leaf 0).1 (hs.1.2.1 0 (by omega) (by omega)).1
  have nnl : ∀ x : Term, kmt x .null = true := fun x => by cases x <;> rfl
  intro q
  induction q with
  | zero => intro a b h1 ha hb; have := (hs.at ha).1; omega
  | succ q ih =>
    intro a b h1 ha hb
    have Ha := hs.at ha
    have Hb := hs.at hb
    have la := ha.lt hn.2 hm0
    have lb := hb.lt hn.2 hm0
    refine B70 ⟨fun e => ⟨rfl, by subst e; rw [n0]; rfl⟩, fun e => ⟨fun e2 => ⟨by omega, by omega, fun e3 => ⟨fun e4 => ?_, fun e4 => ?_⟩, fun e3 => ?_⟩, fun e2 => ⟨rfl, by subst e2; rw [n0, nnl]; rfl⟩⟩⟩
    · -- both of one sign
      refine ⟨rfl, ?_⟩
      have ka := (Ha.2.2.1 e4).1
      rcases (show s.2 4 a = 1 ∨ s.2 4 a = 2 by omega) with e5 | e5
      · rw [(leaf a).2.1 e5, (leaf b).2.1 (by omega)]; rfl
      · rw [(leaf a).2.2 e5, (leaf b).2.2 (by omega)]; rfl
    · obtain ⟨a3, va, wa, ea, sa, ta⟩ := Ha.2.2.2 e4
      obtain ⟨b3, vb, wb, eb, sb, tb⟩ := Hb.2.2.2 (by omega)
      have va' : vk (s.1 2) 40 (s.2 5 a) := va.up (by omega)
      have wa' : vk (s.1 2) 40 (s.2 6 a) := wa.up (by omega)
      have vb' : vk (s.1 2) 40 (s.2 5 b) := vb.up (by omega)
      have wb' : vk (s.1 2) 40 (s.2 6 b) := wb.up (by omega)
      have hk : kmt (kts s a) (kts s b) = (kmt (kts s (s.2 5 a)) (kts s (s.2 5 b)) && kmt (kts s (s.2 6 a)) (kts s (s.2 6 b))) := by
        rcases (show s.2 4 a = 3 ∨ s.2 4 a = 4 by omega) with e5 | e5
        · rw [(node a ha).1 e5, (node b hb).1 (by omega)]; rfl
        · rw [(node a ha).2 e5, (node b hb).2 (by omega)]; rfl
      rw [hk]
      refine wci_mono (ih _ _ (by omega) va' vb') (Nat.le_refl _) ?_
      rintro r t ⟨rfl, rfl⟩
      cases hc : kmt (kts t (t.2 5 a)) (kts t (t.2 5 b)) with
      | false => exact ⟨fun _ => ⟨rfl, rfl⟩, fun h => absurd rfl h⟩
      | true =>
        refine ⟨fun h => absurd h (by decide), fun _ => wci_mono (ih _ _ (by omega) wa' wb') (Nat.le_refl _) ?_⟩
        rintro r u ⟨rfl, rfl⟩
        cases hc2 : kmt (kts u (u.2 6 a)) (kts u (u.2 6 b)) with
        | false => exact ⟨fun _ => ⟨rfl, rfl⟩, fun h => absurd rfl h⟩
        | true => exact ⟨fun h => absurd h (by decide), fun _ => ⟨rfl, rfl⟩⟩
    · refine ⟨rfl, ?_⟩
      have z1 : s.2 4 a ≠ 0 := fun h => e (by have := (Ha.2.2.1 (by omega)).1; omega)
      have z2 : s.2 4 b ≠ 0 := fun h => e2 (by have := (Hb.2.2.1 (by omega)).1; omega)
      have : kmt (kts s a) (kts s b) = false := by
        rcases (show s.2 4 a = 1 ∨ s.2 4 a = 2 ∨ s.2 4 a = 3 ∨ s.2 4 a = 4 by omega) with f | f | f | f <;> rcases (show s.2 4 b = 1 ∨ s.2 4 b = 2 ∨ s.2 4 b = 3 ∨ s.2 4 b = 4 by omega) with f2 | f2 | f2 | f2
        all_goals first
          | (exfalso; omega)
          | (rw [(leaf a).2.1 f, (leaf b).2.2 f2]; rfl)
          | (rw [(leaf a).2.1 f, (node b hb).1 f2]; rfl)
          | (rw [(leaf a).2.1 f, (node b hb).2 f2]; rfl)
          | (rw [(leaf a).2.2 f, (leaf b).2.1 f2]; rfl)
          | (rw [(leaf a).2.2 f, (node b hb).1 f2]; rfl)
          | (rw [(leaf a).2.2 f, (node b hb).2 f2]; rfl)
          | (rw [(node a ha).1 f, (leaf b).2.1 f2]; rfl)
          | (rw [(node a ha).1 f, (leaf b).2.2 f2]; rfl)
          | (rw [(node a ha).1 f, (node b hb).2 f2]; rfl)
          | (rw [(node a ha).2 f, (leaf b).2.1 f2]; rfl)
          | (rw [(node a ha).2 f, (leaf b).2.2 f2]; rfl)
          | (rw [(node a ha).2 f, (node b hb).1 f2]; rfl)
      rw [this]
      rfl
end
section
variable {iv : List (Int × Int)} {L : Nat} {h0 : MH} {A A' : Int → Nat} {c e : SC} {s w v u : SM} {t t' : Term} {n : Int} {K K' : List Snap} {Sh : Int → Option Snap} {V : Term} {W : List (Int × Int)} {ys : List (Nat × Nat)} {rs : List Nat} {d d2 : Nat} {z a b i j k q x f r : Int}
theorem meet3_ok {F : Int → SM → Prop} (hK : KIs s) (hdd : 50 ≤ d) (H : F (metA s a b) s) : cm iv L h0 d 72 [vr 307, vi a, vi b] s (qi F) := by
  obtain ⟨d, rfl⟩ : ∃ k, d = k + 2 := ⟨d - 2, by omega⟩
  unfold metA at H
  have h3 := KJ_40 hK
  refine B72 ⟨hK.1, fun ha => ⟨fun hb => ?_, fun hb => by rw [if_neg (by omega)] at H; exact H⟩, fun ha => by rw [if_neg (by omega)] at H; exact H⟩
  rw [if_pos ⟨ha, hb⟩, kks_told ha, kks_told hb] at H
  refine wci_mono (meeting_40 h3 40 a b (h3.at (k := a) (Or.inl ha)).1.2 (Or.inl ha) (Or.inl hb)) (by omega) ?_
  rintro r w ⟨rfl, rfl⟩
  cases h : kmt (kts w a) (kts w b) with
  | true => rw [h] at H; exact ⟨fun q => absurd q (by decide), fun _ => H⟩
  | false => rw [h] at H; exact ⟨fun _ => H, fun q => absurd rfl q⟩
theorem ps_meet (h : PAIR n s c) (hdd : 410 ≤ d) (hd2 : 400 ≤ d2) : cm iv L h0 d 72 [vr 307, vi a, vi b] s (qi fun r s' => ∀ h0', ck iv L h0' d2 4 [vr 64, vi a, vi b] c (qi (PQ (n + 1) c r s'))) := by
  have hP := h
  obtain ⟨A, t, K, Sh, V, W, hM, hD⟩ := h
  exact meet3_ok hM.1.2.1 (by omega) (fun h0' => meet_c hD.1.1 hM.1.2.1 (by omega) (same_pair hP SX.rf))
theorem us_id : us s 16 (s.1 16) = s := by
  have : (fun y => if y = 16 then s.1 16 else s.1 y) = s.1 := funext fun y => by
    by_cases g : y = 16
    · rw [if_pos g, g]
    · rw [if_neg g]
  unfold us
  rw [this]
/-- the cursor put on a node -/
theorem cur_pair (hM : MS n s t K Sh V W) (hD : DKc A c s t K Sh ∧ WKD A c s V ∧ DLK A c s t W) (hb : b ∈ fl t) (hx : SX [] [] (us s 16 b) w) (h1 : R1 A e (us s 16 b) t) (hc : CX [(8, 2)] [] c e) (hr : RMk 0 0 c e) : PAIR n w e ∧ RQ c e := by
  obtain ⟨d1, d2, d3⟩ := id hD
  have hX := d1.1.1.1
  have hT := hM.1.1
  have x0 : SX [16] [] s (us s 16 b) := SX.eq (ys := [16]) (fs := []) (eqx_us eqx.rf (by decide)) (by decide) (by decide)
  have sx : SX [16] [] s w := x0.tr (hx.up (by decide) (by decide))
  have h0 : AFT (us s 16 b) t := ⟨hT.1.x x0 (by decide) (by decide), hT.2.1.x x0 hT.1.2.2.2.2.1.2 (by decide) (by decide), hb⟩
  have hA : AFT w t := h0.x hx (by decide) (by decide)
  have K0 := KIs_x hM.1.2.1 x0 (by decide) (by decide)
  have hM' : MS n w t K Sh V W := MS_g hM sx (by decide) (by decide) hA (KIs_x hM.1.2.1 sx (by decide) (by decide)) (BX_x hM.2.1.1 sx (by decide) (by decide) (by rw [sx.1 8 (by decide) (by decide)]; exact Int.le_refl _)) (hM.2.1.2.x sx (by decide)) (hM.2.2.1.2.x sx (by decide) (by decide))
  have r1 := R1_sx h1 h0.1 hA.1 h0.2.1 K0 hx (by decide) (by decide)
  have sb := SBX_x sx (by decide) (by decide)
  have np : NPY [(8, 2)] [] := ⟨fun y => ⟨by simp, by simp⟩, ⟨by decide, by decide⟩, by decide, by decide, by decide, by decide⟩
  exact oth_pair hM hD hM' hc hr sx np ⟨fun y => by simp, ⟨by decide, by decide⟩, fun k => by simp, fun k => by simp, by decide⟩ ⟨by decide, by decide⟩ (by decide) (by decide) ⟨r1, ⟨(d1.2.1.1.x hX hc (by decide) (by decide)).sb sb, (d1.2.1.2.1.x hX hc (by decide) (by decide)).sb sb, d1.2.1.2.2.x hX hc (by decide) (fun a ha => by cases ha)⟩, d1.2.2.1.x hX EXT.rf hT.1.2.2.2.2.1.1 (KPs hM) hc (by decide) (by decide), d1.2.2.2.x hX hc (by decide) (fun a ha => by cases ha)⟩
theorem kid_in (hT : AFT s t) {x i : Int} (hx : x ∈ fl t) (i0 : 0 ≤ i) (i1 : i < pO (s.2 9 x)) : s.2 14 (3 * x + i) ∈ fl t := ((AT_mem t hT.1.1 x hx).2.2.1 i i0 i1 (fun w => by have := hT.1.2.1; unfold full at this; rw [this, ← w]; exact i1)).1
theorem bes_in (hT : AFT s t) (z : Int) : besA s z = -9 ∨ besA s z ∈ fl t := by
  have hS := hT.1
  unfold besA
  by_cases w : s.2 12 (s.1 16) = -9
  · rw [if_pos w]; exact Or.inl rfl
  · rw [if_neg w]
    by_cases w2 : 0 ≤ s.2 13 (s.1 16) + z ∧ s.2 13 (s.1 16) + z < pO (s.2 9 (s.2 12 (s.1 16)))
    · rw [if_pos w2]; exact Or.inr (kid_in hT (hS.up9 hT.2.2 (fun w' => w (by rw [w']; exact hS.2.2.2.2.2.2.1))) w2.1 w2.2)
    · rw [if_neg w2]; exact Or.inl rfl
theorem goG_in (hT : AFT s t) : goG s t k = -9 ∨ goG s t k ∈ fl t := by
  have hS := hT.1
  unfold goG
  split
  · by_cases w : s.1 16 = hd t
    · left; rw [w]; exact hS.2.2.2.2.2.2.1
    · right; exact hS.up9 hT.2.2 w
  · split
    · split
      · rename_i g
        have := kid_in hT hT.2.2 (i := 0) (Int.le_refl _) g
        rw [Int.add_zero] at this
        exact Or.inr this
      · exact Or.inl rfl
    · split
      · exact bes_in hT 1
      · split
        · exact bes_in hT (-1)
        · split
          · exact (bhd_in (isH s) (s.1 16) (fl t) false).imp id (fun w => w.1)
          · right
            rw [← hS.2.2.2.2.2.1]
            exact hd_mem t hS.1
theorem ps_go (h : PAIR n s c) (hdd : 410 ≤ d) (hd2 : 400 ≤ d2) : cm iv L h0 d 105 [vr 307, vi k] s (qi fun r s' => ∀ h0', ck iv L h0' d2 11 [vr 64, vi k] c (qi (PQ (n + 1) c r s'))) := by
  have hP := h
  obtain ⟨A, t, K, Sh, V, W, hM, hD⟩ := h
  have hT := hM.1.1
  refine go_ok hT.1 hT.2.2 (by omega) (fun w hw h0' => go_c hD.1.1 hT (by omega) (fun e h1 hc hr => ?_))
  unfold goU at hw h1
  by_cases g : (0 ≤ k ∧ k ≤ 5) ∧ goG s t k ≠ -9
  · rw [if_pos g] at hw h1
    have := cur_pair hM hD ((goG_in hT).resolve_left g.2) hw h1 hc hr
    exact ⟨rfl, PAIR_up this.1 (by omega), this.2⟩
  · rw [if_neg g] at hw h1
    have x0 := us_id (s := s)
    have := cur_pair (b := s.1 16) hM hD hT.2.2 (by rw [x0]; exact hw) (by rw [x0]; exact h1) hc hr
    exact ⟨rfl, PAIR_up this.1 (by omega), this.2⟩
theorem ps_seek (h : PAIR n s c) (hdd : 410 ≤ d) (hd2 : 400 ≤ d2) : cm iv L h0 d 106 [vr 307, vi b] s (qi fun r s' => ∀ h0', ck iv L h0' d2 12 [vr 64, vi b] c (qi (PQ (n + 1) c r s'))) := by
  have hP := h
  obtain ⟨d2, rfl⟩ : ∃ k, d2 = k + 1 := ⟨d2 - 1, by omega⟩
  obtain ⟨A, t, K, Sh, V, W, hM, hD⟩ := h
  have hT := hM.1.1
  refine seek_ok hT.1 (by omega) (fun w hw h0' => seek_c hD.1.1 hT.1 (fun e h1 hc hr => ?_))
  unfold seeU at hw h1
  by_cases g : b ∈ fl t
  · rw [if_pos g] at hw h1
    have := cur_pair hM hD g hw h1 hc hr
    exact ⟨rfl, PAIR_up this.1 (by omega), this.2⟩
  · rw [if_neg g] at hw h1
    have x0 := us_id (s := s)
    have := cur_pair (b := s.1 16) hM hD hT.2.2 (by rw [x0]; exact hw) (by rw [x0]; exact h1) hc hr
    exact ⟨rfl, PAIR_up this.1 (by omega), this.2⟩
end
end
section
/-! Steps of the pair: the box. -/
def BU (n : Int) (s u : SM) : Prop := SX [0, 71, 73] [1, 72] s u ∧ BX u ∧ CM (n + 1) u
section
variable {iv : List (Int × Int)} {L : Nat} {h0 : MH} {A A' : Int → Nat} {c e : SC} {s w v u : SM} {t t' : Term} {n : Int} {K K' : List Snap} {Sh : Int → Option Snap} {V : Term} {W : List (Int × Int)} {ys : List (Nat × Nat)} {rs : List Nat} {d d2 : Nat} {z a b i j k q x f r : Int}
theorem BU_rf (hM : MS n s t K Sh V W) : BU n s s := ⟨SX.rf, hM.2.1.1, CM_up hM.2.1.2 (by omega)⟩
theorem BU_mt (hM : MS n s t K Sh V W) (hf : 0 ≤ f ∧ f < 6) : BU n s (mtU s f) := by
  have := MS_mt hM hf
  exact ⟨SX.eq (ys := [0]) (fs := [1]) (eqx_ua (eqx_us eqx.rf (by decide)) (by decide)) (by decide) (by decide), this.2.1.1, this.2.1.2⟩
theorem BU_73 (hM : MS n s t K Sh V W) : BU n s (us s 73 z) := ⟨SX.eq (ys := [73]) (fs := []) (eqx_us eqx.rf (by decide)) (by decide) (by decide), hM.2.1.1, CM_up (n := n) (s := us s 73 z) hM.2.1.2 (by omega)⟩
theorem BU_box (hM : MS n s t K Sh V W) : BU n s (boxU s z) := by
  unfold boxU
  split
  · exact BU_rf hM
  · split
    · exact BU_mt hM (by decide)
    · rename_i g1 g2
      have hB := hM.1.1.1.2.2.2.2.1.1
      have e0 : eqx [71] [72] s (zbx (us s 71 z)) := ⟨fun y hy => if_neg (fun q => hy (by rw [q]; decide)), fun f hf => by
        funext i
        show (if f = 72 ∧ 0 ≤ i ∧ i < 8 then 0 else s.2 f i) = s.2 f i
        rw [if_neg (fun q => hf (by rw [q.1]; decide))]⟩
      refine ⟨SX.eq (ys := [71]) (fs := [72]) e0 (by decide) (by decide), ⟨⟨show 0 ≤ z by omega, show z ≤ 8 by omega⟩, fun i i0 i8 => ?_⟩, fun f f0 f6 => ?_⟩
      · have e1 : (zbx (us s 71 z)).2 72 i = 0 := if_pos ⟨rfl, i0, i8⟩
        rw [e1]
        exact ⟨Int.le_refl _, hB⟩
      · rw [e0.2 1 (by decide)]
        exact CM_up hM.2.1.2 (by omega) f f0 f6
theorem BU_kep (hM : MS n s t K Sh V W) : BU n s (kepU s t i b) := by
  unfold kepU
  split
  · rename_i hb
    split
    · rename_i g
      have hB := hM.1.1.1.lt hb
      have hX := hM.2.1.1
      have e0 : eqx [] [72] s (ua s 72 i (b + 1)) := eqx_ua eqx.rf (by decide)
      refine ⟨SX.eq (ys := []) (fs := [72]) e0 (by decide) (by decide), ⟨hX.1, fun j j0 j8 => ?_⟩, fun f f0 f6 => ?_⟩
      · show 0 ≤ (if (72 : Nat) = 72 ∧ j = i then b + 1 else s.2 72 j) ∧ (if (72 : Nat) = 72 ∧ j = i then b + 1 else s.2 72 j) ≤ s.1 8
        by_cases q : j = i
        · rw [if_pos ⟨rfl, q⟩]; omega
        · rw [if_neg (fun w => q w.2)]; exact hX.2 j j0 j8
      · rw [e0.2 1 (by decide)]
        exact CM_up hM.2.1.2 (by omega) f f0 f6
    · exact BU_mt hM (by decide)
  · exact BU_rf hM
theorem BU_bxd (hM : MS n s t K Sh V W) : BU n s (bxdU s i k) := by
  unfold bxdU
  split
  · split
    · exact BU_73 hM
    · exact BU_mt hM (by have := lak_in (s := s) (i := i) (k := k); omega)
  · exact BU_rf hM
theorem BU_sha (hM : MS n s t K Sh V W) : BU n s (shaU s i j) := by
  unfold shaU
  split
  · exact BU_73 hM
  · refine BU_mt hM ?_
    unfold shaF
    split
    · decide
    · split
      · decide
      · split
        · decide
        · split <;> decide
theorem ky5n {a : Nat} : ky a 5 ≠ 1 := by
  unfold ky
  split <;> decide
/-- .. where one field of the desk itself changes -/
theorem DLK_x1 (h : DLK A c s t W) (hX : FIX c) (hN : ND A c s) (hx : CX ys rs c e) (hr : RMk 0 0 c e) (hy : (∀ k, (k, 11) ∉ ys) ∧ (∀ k, k ≠ 1 → (k, 12) ∉ ys) ∧ (1, 15) ∉ ys) (hm : ∀ x, x ∈ fl t → 0 ≤ x ∧ x < s.1 8) (h8 : v.1 8 = s.1 8) (h35 : v.1 35 = s.1 35) (h42 : ∀ b, 0 ≤ b → b < s.1 8 → v.2 42 b = s.2 42 b) : DLK A e v t W := by
  obtain ⟨h1, h2, h3, h4⟩ := h
  have h353 := hX.2.2.1
  have e15 : fI e 64 15 = fI c 64 15 := hx.i (by omega) (by rw [hX.wt.1]; exact hy.2.2)
  have lt : ∀ b, 0 ≤ b → b < s.1 8 → A b < nxt c ∧ kl c (A b) = 5 := fun b b0 b1 => by
    obtain ⟨⟨n1, -⟩, n9, -⟩ := hN.2 b b0 b1
    exact ⟨by omega, n1⟩
  have r12 : ∀ a, a < nxt c → kl c a = 5 → fR e a 12 = fR c a 12 := fun a ha hk => hx.r ha (hy.2.1 _ (by rw [hk]; exact ky5n))
  refine ⟨by rw [e15, h35]; exact h1, QN_up h2 hN EXT.rf hx hy.1 (fun a ha h hk => (r12 a ha hk).trans h) (NWc_nn hr.1) (by omega), fun b hb => ?_, fun w => ⟨fun b b0 b1 hf => ?_, fun b hb => ?_⟩⟩
  · have := lt b (hm b hb).1 (hm b hb).2
    rw [r12 _ this.1 this.2]; exact h3 b hb
  · rw [h8] at b1
    rw [h42 b b0 b1] at hf ⊢
    have := lt b b0 b1
    rw [r12 _ this.1 this.2]
    exact (h4 (by rw [← h35]; exact w)).1 b b0 b1 hf
  · rw [hx.i (lt b (hm b hb).1 (hm b hb).2).1 (hy.1 _)]
    exact (h4 (by rw [← h35]; exact w)).2 b hb
theorem bx_pair (hM : MS n s t K Sh V W) (hD : DKc A c s t K Sh ∧ WKD A c s V ∧ DLK A c s t W) (hu : BU n s u) (hx : SX [] [] u v) (hc : CX [(1, 12), (1, 13), (1, 14)] [197, 198] c e) (hr : RMk 0 0 c e) (hb : BXc A e u) (hf : FNc e u) : PAIR (n + 1) v e ∧ RQ c e := by
  obtain ⟨d1, d2, d3⟩ := id hD
  have hX := d1.1.1.1
  have hT := hM.1.1
  obtain ⟨x0, hB, hC⟩ := hu
  have sx : SX [0, 71, 73] [1, 72] s v := x0.tr (hx.up (by decide) (by decide))
  have hA : AFT v t := hT.x sx (by decide) (by decide)
  have hM' : MS (n + 1) v t K Sh V W := MS_g hM sx (by decide) (by decide) hA (KIs_x hM.1.2.1 sx (by decide) (by decide)) (BX_x hB hx (by decide) (by decide) (by rw [hx.1 8 (by decide) (by decide)]; exact Int.le_refl _)) (hC.x hx (by decide)) (hM.2.2.1.2.x sx (by decide) (by decide))
  have r1 : R1 A e s t := d1.1.x hT.1 hc (by decide) (by decide) (by decide) (by decide)
  have r1 := R1_sx r1 hT.1 hA.1 hT.2.1 hM.1.2.1 sx (by decide) (by decide)
  have sb := SBX_x hx (by decide) (by decide)
  have np : NPY [(1, 12), (1, 13), (1, 14)] [197, 198] := ⟨fun y => ⟨by simp, by simp⟩, ⟨by decide, by decide⟩, by decide, by decide, by decide, by decide⟩
  have dk : DKc A e v t K Sh := ⟨r1, ⟨hb.sb sb, hf.sb sb, d1.2.1.2.2.x hX hc (by decide) (fun a ha => by simp at ha; omega)⟩, d1.2.2.1.x hX EXT.rf hT.1.2.2.2.2.1.1 (KPs hM) hc (by decide) (by decide), d1.2.2.2.x hX hc (by decide) (fun a ha => by simp at ha; omega)⟩
  exact ⟨⟨A, t, K, Sh, V, W, hM', dk, WKD_x d2 hX hc np (fun y => by simp) (w183 hX hc ⟨by decide, by decide⟩ ⟨by decide, by decide⟩) EXT.rf ⟨sx.1 56 (by decide) (by decide), sx.1 60 (by decide) (by decide), sx.1 61 (by decide) (by decide)⟩ (fun b hb => sx.nod (Or.inl rfl) (by decide) (by have := hT.1.2.2.2.2.1; omega)) (by rw [sx.1 8 (by decide) (by decide)]; exact Int.le_refl _), DLK_x1 d3 hX d1.1.1.2.1 hc hr ⟨fun k => by simp, fun k hk => by simp; omega, by decide⟩ (mm hM) (sx.1 8 (by decide) (by decide)) (sx.1 35 (by decide) (by decide)) (fun b _ _ => by rw [sx.row (f := 42) (by decide) (by decide) (by decide)])⟩, RQ_cx hX hc np hr (by decide) (by decide)⟩
theorem fn_r (hM : MS n s t K Sh V W) (hn : n ≤ 512) : ∀ f, 0 ≤ f → f < 6 → 0 ≤ s.2 1 f ∧ s.2 1 f ≤ 600 := fun f f0 f6 => by have := hM.2.1.2 f f0 f6; omega
theorem ps_box (h : PAIR n s c) (hn : n ≤ 512) (hdd : 410 ≤ d) (hd2 : 400 ≤ d2) : cm iv L h0 d 151 [vr 307, vi z] s (qi fun r s' => ∀ h0', ck iv L h0' d2 31 [vr 64, vi z] c (qi (PQ (n + 1) c r s'))) := by
  have hP := h
  obtain ⟨d, rfl⟩ : ∃ k, d = k + 1 := ⟨d - 1, by omega⟩
  obtain ⟨d2, rfl⟩ : ∃ k, d2 = k + 1 := ⟨d2 - 1, by omega⟩
  obtain ⟨A, t, K, Sh, V, W, hM, hD⟩ := h
  refine box_ok hM.2.1.2 (by omega) (fun h0' => box_c hD.1.1.1.1 hD.1.1.1.2.1 hD.1.2.1.1 hD.1.2.1.2.1 (fn_r hM hn) (fun e hc hr hb hf => ?_))
  have := bx_pair hM hD (BU_box hM) SX.rf (hc.up (by decide) (by decide)) hr hb hf
  exact ⟨rfl, this.1, this.2⟩
theorem ps_keep (h : PAIR n s c) (hn : n ≤ 512) (hdd : 410 ≤ d) (hd2 : 400 ≤ d2) : cm iv L h0 d 152 [vr 307, vi i, vi b] s (qi fun r s' => ∀ h0', ck iv L h0' d2 32 [vr 64, vi i, vi b] c (qi (PQ (n + 1) c r s'))) := by
  have hP := h
  obtain ⟨d2, rfl⟩ : ∃ k, d2 = k + 1 := ⟨d2 - 1, by omega⟩
  obtain ⟨A, t, K, Sh, V, W, hM, hD⟩ := h
  refine keep_ok hM.1.1.1 hM.2.1.1 hM.2.1.2 (by omega) (by omega) (fun w hw h0' => keep_c hD.1.1 hM.1.1.1 hD.1.2.1.1 hM.2.1.1 hD.1.2.1.2.1 (fn_r hM hn) (fun e hc hr hb hf => ?_))
  have := bx_pair hM hD (BU_kep hM) hw (hc.up (by decide) (by decide)) hr hb hf
  exact ⟨rfl, this.1, this.2⟩
theorem ps_boxed (h : PAIR n s c) (hn : n ≤ 512) (hdd : 410 ≤ d) (hd2 : 400 ≤ d2) : cm iv L h0 d 154 [vr 307, vi i, vi k] s (qi fun r s' => ∀ h0', ck iv L h0' d2 33 [vr 64, vi i, vi k] c (qi (PQ (n + 1) c r s'))) := by
  have hP := h
  obtain ⟨d, rfl⟩ : ∃ k, d = k + 2 := ⟨d - 2, by omega⟩
  obtain ⟨d2, rfl⟩ : ∃ k, d2 = k + 1 := ⟨d2 - 1, by omega⟩
  obtain ⟨A, t, K, Sh, V, W, hM, hD⟩ := h
  refine boxed_ok hM.2.1.1 hM.1.1.1.2.2.2.2.1.2 hM.2.1.2 (by omega) (fun h0' => boxed_c hD.1.1.1.1 hD.1.1.1.2.1 hD.1.2.1.1 hM.2.1.1 hD.1.2.1.2.1 (fn_r hM hn) (fun e hc hr hb hf => ?_))
  have := bx_pair hM hD (BU_bxd hM) SX.rf (hc.up (by decide) (by decide)) hr hb hf
  exact ⟨rfl, this.1, this.2⟩
theorem ps_share (h : PAIR n s c) (hn : n ≤ 512) (hdd : 410 ≤ d) (hd2 : 400 ≤ d2) : cm iv L h0 d 155 [vr 307, vi i, vi j] s (qi fun r s' => ∀ h0', ck iv L h0' d2 34 [vr 64, vi i, vi j] c (qi (PQ (n + 1) c r s'))) := by
  have hP := h
  obtain ⟨d, rfl⟩ : ∃ k, d = k + 2 := ⟨d - 2, by omega⟩
  obtain ⟨d2, rfl⟩ : ∃ k, d2 = k + 1 := ⟨d2 - 1, by omega⟩
  obtain ⟨A, t, K, Sh, V, W, hM, hD⟩ := h
  refine share_ok hM.2.1.1 hM.1.1.1.2.2.2.2.1.2 hM.2.1.2 (by omega) (fun h0' => share_c hD.1.1.1.1 hD.1.1.1.2.1 hD.1.2.1.1 hM.2.1.1 hD.1.2.1.2.1 (fn_r hM hn) (fun e hc hr hb hf => ?_))
  have := bx_pair hM hD (BU_sha hM) SX.rf (hc.up (by decide) (by decide)) hr hb hf
  exact ⟨rfl, this.1, this.2⟩
end
end
section
/-! Steps of the pair: seen, offers, kind. -/
section
variable {iv : List (Int × Int)} {L : Nat} {h0 : MH} {A A' : Int → Nat} {c e : SC} {s w v u : SM} {t t' : Term} {n : Int} {K K' : List Snap} {Sh : Int → Option Snap} {V : Term} {W : List (Int × Int)} {ys : List (Nat × Nat)} {rs : List Nat} {d d2 : Nat} {z a b i j k q x f r : Int}
theorem glm_pair (hM : MS n s t K Sh V W) (hD : DKc A c s t K Sh ∧ WKD A c s V ∧ DLK A c s t W) (hx : SX [] [] s w) (hw : WX 188 c e) : PAIR n w e ∧ RQ c e := by
  obtain ⟨d1, d2, d3⟩ := id hD
  have hX := d1.1.1.1
  have hT := hM.1.1
  have hc := hw.cx hX.wt.2.2.2.2.2.2.2.2 (by decide)
  have hr : RMk 0 0 c e := ⟨by have := hw.1.1; omega, by have := hw.1.2; omega⟩
  have hM' := MS_x hM hx (by decide) (by decide)
  have r1 : R1 A e s t := d1.1.x hT.1 hc (by decide) (by decide) (by decide) (by decide)
  have r1 := R1_sx r1 hT.1 hM'.1.1.1 hT.2.1 hM.1.2.1 hx (by decide) (by decide)
  have sb := SBX_x hx (by decide) (by decide)
  have np : NPY [(12, 1), (12, 3), (12, 6)] [188 + 1, 188 + 2, 188 + 3, 188 + 4] := ⟨fun y => ⟨by simp, by simp⟩, ⟨by decide, by decide⟩, by decide, by decide, by decide, by decide⟩
  have dk : DKc A e w t K Sh := ⟨r1, ⟨(d1.2.1.1.x hX hc (by decide) (by decide)).sb sb, (d1.2.1.2.1.x hX hc (by decide) (by decide)).sb sb, d1.2.1.2.2.x hX hc (by decide) (fun a ha => by simp at ha; omega)⟩, d1.2.2.1.x hX EXT.rf hT.1.2.2.2.2.1.1 (KPs hM) hc (by decide) (by decide), d1.2.2.2.x hX hc (by decide) (fun a ha => by simp at ha; omega)⟩
  obtain ⟨-, -, w3, w4, w5⟩ := hw
  exact ⟨⟨A, t, K, Sh, V, W, hM', dk, WKD_x d2 hX hc np (fun y => by simp) ⟨⟨w3 183 1 (by omega), w3 183 3 (by omega)⟩, (w5 184 (by omega)).2, (w5 185 (by omega)).1⟩ EXT.rf ⟨hx.1 56 (by decide) (by decide), hx.1 60 (by decide) (by decide), hx.1 61 (by decide) (by decide)⟩ (fun b hb => hx.nod (Or.inl rfl) (by decide) (by have := hT.1.2.2.2.2.1; omega)) (by rw [hx.1 8 (by decide) (by decide)]; exact Int.le_refl _), DLK_x d3 hX d1.1.1.2.1 hc hr ⟨fun k => by simp, fun k => by simp, by decide⟩ (mm hM) (hx.1 8 (by decide) (by decide)) (hx.1 35 (by decide) (by decide)) (fun b _ _ => by rw [hx.row (f := 42) (by decide) (by decide) (by decide)])⟩, RQ_cx hX hc np hr (by decide) (by decide)⟩
theorem ps_seen (h : PAIR n s c) (hdd : 410 ≤ d) (hd2 : 400 ≤ d2) : cm iv L h0 d 150 [vr 307, vi k, vi x, vi i] s (qi fun r s' => ∀ h0', ck iv L h0' d2 30 [vr 64, vi k, vi x, vi i] c (qi (PQ (n + 1) c r s'))) := by
  have hP := h
  obtain ⟨d2, rfl⟩ : ∃ k, d2 = k + 6 := ⟨d2 - 6, by omega⟩
  obtain ⟨A, t, K, Sh, V, W, hM, hD⟩ := h
  have hT := hM.1.1
  obtain ⟨p, q, hp, ⟨v1, v2⟩, -⟩ := hD.2.1
  refine seen_ok hT.1.2.2.2.2.1.2 hM.2.2.2.2.1.1 (by omega) (fun g h0' => ?_) (fun g hn h0' => ?_) (fun w g hv hw h0' => ?_)
  · exact dseen_c (V := V) hD.1.1 hT.1 hp (fun g2 => by
      by_cases hv : hasV s
      · obtain ⟨g1, g2, g3⟩ := v1 hv
        exact ⟨g2.2.1, g3⟩
      · exact absurd (v2 hv) g2) (fun _ => same_pair hP SX.rf) (fun _ q => absurd q g) (fun _ q => absurd q g)
  · exact dseen_c (V := V) hD.1.1 hT.1 hp (fun g2 => absurd (v2 hn) g2) (fun q => absurd g q) (fun _ _ => same_pair hP SX.rf) (fun q => absurd (v2 hn) q)
  · obtain ⟨g1, g2, g3⟩ := v1 hv
    refine dseen_c (V := V) hD.1.1 hT.1 hp (fun _ => ⟨g2.2.1, g3⟩) (fun q => absurd g q) (fun q => absurd q g1) (fun _ _ e he => ?_)
    have := glm_pair hM hD (SX.eq hw (by decide) (by decide)) he
    exact ⟨rfl, PAIR_up this.1 (by omega), this.2⟩
theorem of_pair (hM : MS n s t K Sh V W) (hD : DKc A c s t K Sh ∧ WKD A c s V ∧ DLK A c s t W) (hx : SX [] [] s w) (ho : OFI A c e s t) : PAIR n w e ∧ RQ c e := by
  obtain ⟨d1, d2, d3⟩ := id hD
  have hX := d1.1.1.1
  have hT := hM.1.1
  obtain ⟨r1, tr, hc, hr⟩ := ho
  have hM' := MS_x hM hx (by decide) (by decide)
  have r1 := R1_sx r1 hT.1 hM'.1.1.1 hT.2.1 hM.1.2.1 hx (by decide) (by decide)
  have sb := SBX_x hx (by decide) (by decide)
  have np : NPY trY trR := ⟨fun y => ⟨by unfold trY; simp, by unfold trY; simp⟩, ⟨by decide, by decide⟩, by decide, by decide, by decide, by decide⟩
  exact oth_pair hM hD hM' hc hr hx np ⟨fun y => by unfold trY; simp, ⟨by decide, by decide⟩, fun k => by unfold trY; simp, fun k => by unfold trY; simp, by decide⟩ ⟨by decide, by decide⟩ (by decide) (by decide) ⟨r1, ⟨(d1.2.1.1.x hX hc (by decide) (by decide)).sb sb, (d1.2.1.2.1.x hX hc (by decide) (by decide)).sb sb, tr⟩, d1.2.2.1.x hX EXT.rf hT.1.2.2.2.2.1.1 (KPs hM) hc (by decide) (by decide), d1.2.2.2.x hX hc (by decide) (fun a ha => by unfold trR at ha; simp at ha; omega)⟩
theorem ps_offers (h : PAIR n s c) (hdd : 410 ≤ d) (hd2 : 400 ≤ d2) : cm iv L h0 d 119 [vr 307] s (qi fun r s' => ∀ h0', ck iv L h0' d2 22 [vr 64] c (qi (fun _ e => PAIR (n + 1) s' e ∧ RQ c e))) := by
  have hP := h
  obtain ⟨A, t, K, Sh, V, W, hM, hD⟩ := h
  have hT := hM.1.1
  refine offers_ok hT hM.1.2.1 (by omega) (fun w hw h0' => offers_c hD.1.1 hD.1.2.1.2.2 hT hM.1.2.1 (by omega) (fun r e he => ?_))
  have := of_pair hM hD hw he
  exact ⟨PAIR_up this.1 (by omega), this.2⟩
theorem ps_offer (h : PAIR n s c) (hdd : 410 ≤ d) (hd2 : 400 ≤ d2) : cm iv L h0 d 120 [vr 307, vi i, vi k] s (qi fun r s' => ∀ h0', ck iv L h0' d2 23 [vr 64, vi i, vi k] c (qi (fun _ e => PAIR (n + 1) s' e ∧ RQ c e))) := by
  have hP := h
  obtain ⟨A, t, K, Sh, V, W, hM, hD⟩ := h
  have hT := hM.1.1
  refine offer2_ok hT hM.1.2.1 (by omega) (fun w hw h0' => offer2_c hD.1.1 hD.1.2.1.2.2 hT hM.1.2.1 (by omega) (fun r e he => ?_))
  have := of_pair hM hD hw he
  exact ⟨PAIR_up this.1 (by omega), this.2⟩
/-- a new kind -/
theorem knd_pair (hM : MS n s t K Sh V W) (hD : DKc A c s t K Sh ∧ WKD A c s V ∧ DLK A c s t W) (hn : s.1 2 < 40) (hi : i = 3 ∨ i = 4) (ha : 0 ≤ a ∧ a < s.1 2) (hb : 0 ≤ b ∧ b < s.1 2) (hz : 1 + s.2 7 a + s.2 7 b ≤ 40) : PAIR n (knS s i a b) (knC c (s.1 2) i a b (1 + s.2 7 a + s.2 7 b)) ∧ RQ c (knC c (s.1 2) i a b (1 + s.2 7 a + s.2 7 b)) := by
  obtain ⟨d1, d2, d3⟩ := id hD
  have hX := d1.1.1.1
  have hT := hM.1.1
  have h8 := hT.1.2.2.2.2.1
  obtain ⟨r1, k1, s1⟩ := d1.1.kind hT.1 hT.2.1 hM.1.2.1 hn hi ha hb hz
  have hc := knC_x (n := s.1 2) (i := i) (a := a) (b := b) (z := 1 + s.2 7 a + s.2 7 b) hX
  have hr : RMk 0 0 c (knC c (s.1 2) i a b (1 + s.2 7 a + s.2 7 b)) := RMk.rf
  have e0 : eqx [2] [4, 5, 6, 7] s (knS s i a b) := eqx_us (eqx_ua (eqx_ua (eqx_ua (eqx_ua eqx.rf (by decide)) (by decide)) (by decide)) (by decide)) (by decide)
  have e2 : (knS s i a b).1 2 = s.1 2 + 1 := rfl
  generalize knS s i a b = w at r1 k1 s1 e0 e2 ⊢
  generalize knC c (s.1 2) i a b (1 + s.2 7 a + s.2 7 b) = e at r1 hc hr ⊢
  have sx : SX [2] [4, 5, 6, 7] s w := SX.eq e0 (by decide) (by decide)
  have e8 : w.1 8 = s.1 8 := e0.1 8 (by decide)
  have hN : NB w := fun x x0 x1 => by
    obtain ⟨g1, g2, g3, g4⟩ := hT.2.1 x x0 (by omega)
    rw [e0.2 9 (by decide), e0.2 10 (by decide), e0.2 11 (by decide), e2]
    exact ⟨g1, g2, g3, fun q => by have := g4 q; omega⟩
  have hA : AFT w t := ⟨s1, hN, by rw [e0.1 16 (by decide)]; exact hT.2.2⟩
  have hS : ShL w Sh := fun p p0 p6 => by
    obtain ⟨g1, g2⟩ := hM.2.2.1.2 p p0 p6
    unfold SE
    rw [e0.2 37 (by decide), e0.2 38 (by decide), e0.2 39 (by decide), e0.2 40 (by decide), e2]
    refine ⟨g1, fun u hu => ?_⟩
    obtain ⟨f1, f2, f3⟩ := g2 u hu
    exact ⟨f1, f2, fun k x hk => ⟨(f3 k x hk).1, bearOk_up (f3 k x hk).2 (by omega)⟩⟩
  have hM' : MS n w t K Sh V W := MS_g hM sx (by decide) (by decide) hA k1 (BX_x hM.2.1.1 sx (by decide) (by decide) (by omega)) (hM.2.1.2.x sx (by decide)) hS
  have sb := SBX_x sx (by decide) (by decide)
  have np : NPY kiY kiR := ⟨fun y => ⟨by unfold kiY; simp, by unfold kiY; simp⟩, ⟨by decide, by decide⟩, by decide, by decide, by decide, by decide⟩
  exact oth_pair hM hD hM' hc hr sx np ⟨fun y => by unfold kiY; simp, ⟨by decide, by decide⟩, fun k => by unfold kiY; simp, fun k => by unfold kiY; simp, by decide⟩ ⟨by decide, by decide⟩ (by decide) (by decide) ⟨r1, ⟨(d1.2.1.1.x hX hc (by decide) (by decide)).sb sb, (d1.2.1.2.1.x hX hc (by decide) (by decide)).sb sb, d1.2.1.2.2.x hX hc (by decide) (fun a ha => by unfold kiR at ha; simp at ha; omega)⟩, d1.2.2.1.x hX EXT.rf h8.1 (KPs hM) hc (by decide) (by decide), d1.2.2.2.x hX hc (by decide) (fun a ha => by unfold kiR at ha; simp at ha; omega)⟩
theorem ps_kind (h : PAIR n s c) (hdd : 410 ≤ d) (hd2 : 400 ≤ d2) : cm iv L h0 d 68 [vr 307, vi z, vi a, vi b] s (qi fun r s' => ∀ h0', ck iv L h0' d2 2 [vr 64, vi z, vi a, vi b] c (qi (PQ (n + 1) c r s'))) := by
  have hP := h
  obtain ⟨d, rfl⟩ : ∃ k, d = k + 2 := ⟨d - 2, by omega⟩
  obtain ⟨A, t, K, Sh, V, W, hM, hD⟩ := h
  have hT := hM.1.1
  have hn := hM.1.2.1.1
  refine kind_ok hM.1.2.1 (fun hb h0' => ?_) (fun hb h0' => ?_)
  · exact kind_c hD.1.1.1.1 hD.1.1.2.2.1 hM.1.2.1 (by omega) (fun _ => same_pair hP SX.rf) (fun q => absurd hb q) (fun q => absurd hb q)
  · refine kind_c hD.1.1.1.1 hD.1.1.2.2.1 hM.1.2.1 (by omega) (fun q => absurd q hb) (fun _ g => ?_) (fun _ g1 g2 => ?_)
    · have : kndU s z a b = s := by
        unfold kndU
        by_cases q : 0 ≤ kfs s (kis z) a b
        · rw [if_pos q]
        · rw [if_neg q, if_pos (g.resolve_left q)]
      rw [this]
      exact same_pair hP SX.rf
    · have e1 : kndU s z a b = knS s (kis z) a b := by
        unfold kndU
        rw [if_neg g1, if_neg (by omega)]
        rfl
      have e2 : kndA s z a b = s.1 2 := by
        unfold kndA
        rw [if_neg g1, if_neg (by omega)]
      rw [e1, e2]
      unfold kbad at hb
      have := knd_pair (i := kis z) hM hD g2 (by unfold kis; split <;> omega) (a := a) (b := b) (by omega) (by omega) (by omega)
      exact ⟨rfl, PAIR_up this.1 (by omega), this.2⟩
end
end
