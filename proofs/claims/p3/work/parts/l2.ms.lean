/-! What the reference holds between calls, all of it. -/
def FBZ (s : SM) : Prop := ∀ b, s.1 8 ≤ b → b < 3000 → s.2 42 b = 0
/-- numbers kept are borne -/
def NVK (s : SM) (K : List Snap) : Prop := ∀ u, u ∈ K → ∀ x, x ∈ fl u.1 → nvl (s.2 9 x) (u.2.2 10 x) = u.2.2 10 x
def MS (n : Int) (s : SM) (t : Term) (K : List Snap) (Sh : Int → Option Snap) (V : Term) (W : List (Int × Int)) : Prop := (AFT s t ∧ KIs s ∧ NV s ∧ NVK s K) ∧ (BX s ∧ CM n s) ∧ (KL s K ∧ ShL s Sh) ∧ (FBK s ∧ FBZ s) ∧ (VK s V ∧ RSM s t V) ∧ WLs s W ∧ wfW s W
def msN : List Nat := [2, 8, 15, 16, 24, 35, 52, 54, 55, 61, 62, 63, 71]
def msR : List Nat := [1, 4, 5, 6, 7, 9, 10, 11, 12, 13, 14, 25, 26, 27, 28, 29, 37, 38, 39, 40, 42, 46, 47, 48, 49, 50, 51, 53, 64, 65, 72]
def mgN : List Nat := [8, 24, 35, 52, 54, 55, 61, 62, 63]
def mgR : List Nat := [9, 10, 11, 12, 13, 14, 25, 26, 27, 28, 29, 42, 46, 47, 48, 49, 50, 51, 53, 64, 65]
section
variable {s w v : SM} {t t' : Term} {n : Int} {K K' : List Snap} {Sh : Int → Option Snap} {V : Term} {W : List (Int × Int)} {ey ef : List Nat}
/-- a row without places for one call -/
theorem SX.row (hx : SX ey ef s w) {f : Nat} (h1 : f ∉ scR) (h2 : f ∉ ef) (h3 : f ≠ 4 ∧ f ≠ 5 ∧ f ≠ 6 ∧ f ≠ 7 ∧ f ≠ 9 ∧ f ≠ 10 ∧ f ≠ 11 ∧ f ≠ 12 ∧ f ≠ 13 ∧ f ≠ 14) : w.2 f = s.2 f := by
  funext i
  exact hx.2 f h1 h2 i (by unfold scI; omega)
/-- .. of nodes -/
theorem SX.nod (hx : SX ey ef s w) {f : Nat} (h1 : f = 9 ∨ f = 10 ∨ f = 11 ∨ f = 12 ∨ f = 13) (h2 : f ∉ ef) {x : Int} (h3 : x < 3000) : w.2 f x = s.2 f x :=
  hx.2 f (by rcases h1 with e | e | e | e | e <;> rw [e] <;> decide) h2 x (by unfold scI; omega)
theorem KIs_x (h : KIs s) (hx : SX ey ef s w) (hy : 2 ∉ ey) (hf : 4 ∉ ef ∧ 5 ∉ ef ∧ 6 ∉ ef ∧ 7 ∉ ef) : KIs w := by
  have h2 : w.1 2 = s.1 2 := hx.1 2 (by decide) hy
  have hn := h.1
  show KI (w.1 2) (w.2 4) (w.2 5) (w.2 6) (w.2 7)
  rw [h2]
  have e : ∀ f, (f = 4 ∨ f = 5 ∨ f = 6 ∨ f = 7) → ∀ k : Int, 0 ≤ k → k < s.1 2 → f ∉ ef → w.2 f k = s.2 f k := fun f hf k k0 k1 hq => hx.2 f (by rcases hf with e | e | e | e <;> rw [e] <;> decide) hq k (by unfold scI; omega)
  exact KI_lt h (fun k k0 k1 => ⟨e 4 (by omega) k k0 k1 hf.1, e 5 (by omega) k k0 k1 hf.2.1, e 6 (by omega) k k0 k1 hf.2.2.1, e 7 (by omega) k k0 k1 hf.2.2.2⟩)
theorem BX_x (h : BX s) (hx : SX ey ef s w) (hy : 71 ∉ ey) (hf : 72 ∉ ef) (h8 : s.1 8 ≤ w.1 8) : BX w := by
  rw [show BX w = ((0 ≤ w.1 71 ∧ w.1 71 ≤ 8) ∧ ∀ i, 0 ≤ i → i < 8 → 0 ≤ w.2 72 i ∧ w.2 72 i ≤ w.1 8) from rfl, hx.1 71 (by decide) hy, hx.row (f := 72) (by decide) hf (by decide)]
  exact ⟨h.1, fun i i0 i8 => by have := h.2 i i0 i8; omega⟩
theorem FBK_x (h : FBK s) (hx : SX ey ef s w) (hf : 42 ∉ ef) (hz : FBZ s) (h8 : s.1 8 ≤ w.1 8 ∧ w.1 8 ≤ 3000) : FBK w ∧ FBZ w := by
  have e := hx.row (f := 42) (by decide) hf (by decide)
  refine ⟨fun b b0 b1 => ?_, fun b b0 b1 => ?_⟩
  · rw [e]
    by_cases q : b < s.1 8
    · rcases h b b0 q with w | w
      · exact Or.inl w
      · exact Or.inr ⟨w.1, by omega⟩
    · exact Or.inl (hz b (by omega) (by omega))
  · rw [e]; exact hz b (by omega) b1
theorem keep_x (hx : SX ey ef s w) (hf : 46 ∉ ef ∧ 47 ∉ ef ∧ 48 ∉ ef ∧ 49 ∉ ef ∧ 50 ∉ ef ∧ 51 ∉ ef ∧ 53 ∉ ef) {lo hi elo ehi : Int} : KEEP s w lo hi elo ehi := by
  have e : ∀ f, (f = 46 ∨ f = 47 ∨ f = 48 ∨ f = 49 ∨ f = 50 ∨ f = 51 ∨ f = 53) → f ∉ ef → w.2 f = s.2 f := fun f hf hn => hx.row (by rcases hf with e | e | e | e | e | e | e <;> rw [e] <;> decide) hn (by omega)
  refine ⟨fun f u hf' _ _ => ?_, fun j _ _ => by rw [e 53 (by omega) hf.2.2.2.2.2.2]⟩
  rcases hf' with q | q | q | q | q | q <;> rw [q]
  · rw [e 46 (by omega) hf.1]
  · rw [e 47 (by omega) hf.2.1]
  · rw [e 48 (by omega) hf.2.2.1]
  · rw [e 49 (by omega) hf.2.2.2.1]
  · rw [e 50 (by omega) hf.2.2.2.2.1]
  · rw [e 51 (by omega) hf.2.2.2.2.2.1]
/-- the last value stays -/
theorem VK_x (h : VK s V) (hx : SX ey ef s w) (hy : 52 ∉ ey ∧ 54 ∉ ey ∧ 55 ∉ ey ∧ 61 ∉ ey ∧ 62 ∉ ey) (hf : 46 ∉ ef ∧ 47 ∉ ef ∧ 48 ∉ ef ∧ 49 ∉ ef ∧ 50 ∉ ef ∧ 51 ∉ ef ∧ 53 ∉ ef) (h8 : s.1 8 ≤ w.1 8) : VK w V := fun hv => by
  have e52 := hx.1 52 (by decide) hy.1
  have e54 := hx.1 54 (by decide) hy.2.1
  have e55 := hx.1 55 (by decide) hy.2.2.1
  have e61 := hx.1 61 (by decide) hy.2.2.2.1
  have e62 := hx.1 62 (by decide) hy.2.2.2.2
  have hv' : hasV s := by unfold hasV at hv ⊢; rw [e61] at hv; exact hv
  obtain ⟨a1, a2, a3⟩ := h hv'
  refine ⟨?_, ⟨a2.1, ?_⟩, VB_up h8 _ V (Nat.lt_succ_self _) a3⟩
  · unfold HB at a1 ⊢; rw [e55, e52, e54]; exact a1
  · rw [e55, e52, e54, e62]
    exact VR_k a2.2 (keep_x hx hf) (Int.le_refl _) (Int.le_refl _)
theorem WLs_x (h : WLs s W) (hx : SX ey ef s w) (hy : 63 ∉ ey) (hf : 64 ∉ ef ∧ 65 ∉ ef) : WLs w W := by
  unfold WLs at h ⊢
  rw [hx.1 63 (by decide) hy, hx.row (f := 64) (by decide) hf.1 (by decide), hx.row (f := 65) (by decide) hf.2 (by decide)]
  exact h
theorem KL_x (h : KL s K) (hx : SX ey ef s w) (h8 : s.1 8 ≤ 3000 ∧ s.1 8 ≤ w.1 8) (h9 : ∀ x, 0 ≤ x → x < s.1 8 → w.2 9 x = s.2 9 x) (hy : 24 ∉ ey) (hf : 25 ∉ ef ∧ 26 ∉ ef ∧ 27 ∉ ef ∧ 28 ∉ ef ∧ 29 ∉ ef) : KL w K :=
  KL_up h h8.2 h9 (hx.1 24 (by decide) hy) ⟨hx.row (by decide) hf.1 (by decide), hx.row (by decide) hf.2.1 (by decide), hx.row (by decide) hf.2.2.1 (by decide), hx.row (by decide) hf.2.2.2.1 (by decide), hx.row (by decide) hf.2.2.2.2 (by decide)⟩
theorem cov_x (hS : SHT s t) (hS' : SHT w t) (h9 : ∀ y, y ∈ fl t → w.2 9 y = s.2 9 y) (h10 : ∀ y, y ∈ fl t → w.2 10 y = s.2 10 y) {x : Int} (hx : x ∈ fl t) {E : Term} (h : cov s x E) : cov w x E := fun y y0 y1 hy => h y y0 y1 (by
  have := bnd_cg hS.w hS'.w (nu := s.2 10) (nu' := w.2 10) h9 (fun z hz _ => h10 z hz) 70 x y hx
  show bnd (s.2 9) (s.2 10) (s.2 12) (s.2 13) 70 x y ≠ -9
  rw [← this]
  exact hy)
theorem RSM_x (h : RSM s t V) (hS : SHT s t) (hx : SX ey ef s w) (hS' : SHT w t) (hy : ∀ y, y ∈ mgN → y ∉ ey) (hf : ∀ y, y ∈ mgR → y ∉ ef) : RSM w t V := fun hv h35 => by
  have e8 := hx.1 8 (by decide) (hy 8 (by decide))
  have e35 := hx.1 35 (by decide) (hy 35 (by decide))
  have e52 := hx.1 52 (by decide) (hy 52 (by decide))
  have e54 := hx.1 54 (by decide) (hy 54 (by decide))
  have e55 := hx.1 55 (by decide) (hy 55 (by decide))
  have e61 := hx.1 61 (by decide) (hy 61 (by decide))
  have e62 := hx.1 62 (by decide) (hy 62 (by decide))
  have e42 := hx.row (f := 42) (by decide) (hf 42 (by decide)) (by decide)
  have h9 : ∀ y, y ∈ fl t → w.2 9 y = s.2 9 y := fun y hy' => hx.nod (Or.inl rfl) (hf 9 (by decide)) (hS.lt hy').2.2
  have h10 : ∀ y, y ∈ fl t → w.2 10 y = s.2 10 y := fun y hy' => hx.nod (Or.inr (Or.inl rfl)) (hf 10 (by decide)) (hS.lt hy').2.2
  rw [e61] at hv
  rw [e35] at h35
  obtain ⟨a1, a2, a3, a4⟩ := h hv h35
  refine ⟨?_, ⟨a2.1, ?_⟩, ?_, fun y hy' hs => ?_⟩
  · unfold HB at a1 ⊢; rw [e55, e52, e54]; exact a1
  · rw [e55, e52, e54, e62]
    exact VR_k a2.2 (keep_x hx ⟨hf 46 (by decide), hf 47 (by decide), hf 48 (by decide), hf 49 (by decide), hf 50 (by decide), hf 51 (by decide), hf 53 (by decide)⟩) (Int.le_refl _) (Int.le_refl _)
  · show VG w t (tgt w t) V
    rw [tgt_e e42]
    exact VG_cg (by omega) (fun x hx' => ⟨hx', h9 x hx', fun E hE => cov_x hS hS' h9 h10 hx' hE⟩) (fun b hb _ _ => ⟨hb, fun E hE => cov_x hS hS' h9 h10 hb hE, fun q => ⟨q, by rw [q] at hb; exact h9 _ hb⟩⟩) _ V (Nat.lt_succ_self _) a3
  · rw [e42]
    rw [h9 y hy'] at hs
    exact a4 y hy' hs
theorem NVK_x (h : NVK s K) (hK : KL s K) (h9 : ∀ x, 0 ≤ x → x < s.1 8 → w.2 9 x = s.2 9 x) : NVK w K := fun u hu x hx => by
  obtain ⟨i, hi, rfl⟩ := List.mem_iff_getElem.mp hu
  have hP := (hK.2.2 i K[i] (List.getElem?_eq_getElem hi)).2
  have hb := (AT_mem K[i].1 hP.1.1 x hx).1
  rw [h9 x hb.1 hb.2]
  exact h _ hu x hx
theorem NVK_push (h : NVK s K) (hN : NV s) (hS : SHT s t) : NVK s (push K (t, s)) := fun u hu x hx => by
  unfold push at hu
  rcases List.mem_append.mp hu with q | q
  · exact h u (by
      split at q
      · exact List.mem_of_mem_tail q
      · exact q) x hx
  · rw [List.mem_singleton.mp q] at hx ⊢
    have hb := hS.lt hx
    exact (hN x hb.1 hb.2.1).1
/-- over looks, a going, findings, the box, kinds -/
theorem MS_g {n' : Int} {Sh' : Int → Option Snap} (h : MS n s t K Sh V W) (hx : SX ey ef s w) (hy : ∀ y, y ∈ mgN → y ∉ ey) (hf : ∀ y, y ∈ mgR → y ∉ ef) (hA : AFT w t) (hKI : KIs w) (hBX : BX w) (hC : CM n' w) (hS : ShL w Sh') : MS n' w t K Sh' V W := by
  obtain ⟨⟨a1, a2, a3, a4⟩, ⟨b1, b2⟩, ⟨c1, c2⟩, ⟨d1, d2⟩, ⟨e1, e2⟩, g1, g2⟩ := h
  have hB := a1.1.2.2.2.2.1
  have e8 := hx.1 8 (by decide) (hy 8 (by decide))
  have hF := FBK_x d1 hx (hf 42 (by decide)) d2 ⟨by omega, by omega⟩
  exact ⟨⟨hA, hKI, a3.x hx hB.2 (hy 8 (by decide)) ⟨hf 9 (by decide), hf 10 (by decide), hf 11 (by decide)⟩, NVK_x a4 c1 (fun x x0 x1 => hx.nod (Or.inl rfl) (hf 9 (by decide)) (by omega))⟩, ⟨hBX, hC⟩, ⟨KL_x c1 hx ⟨hB.2, by omega⟩ (fun x x0 x1 => hx.nod (Or.inl rfl) (hf 9 (by decide)) (by omega)) (hy 24 (by decide)) ⟨hf 25 (by decide), hf 26 (by decide), hf 27 (by decide), hf 28 (by decide), hf 29 (by decide)⟩, hS⟩, hF, ⟨VK_x e1 hx ⟨hy 52 (by decide), hy 54 (by decide), hy 55 (by decide), hy 61 (by decide), hy 62 (by decide)⟩ ⟨hf 46 (by decide), hf 47 (by decide), hf 48 (by decide), hf 49 (by decide), hf 50 (by decide), hf 51 (by decide), hf 53 (by decide)⟩ (by omega), RSM_x e2 a1.1 hx hA.1 hy hf⟩, WLs_x g1 hx (hy 63 (by decide)) ⟨hf 64 (by decide), hf 65 (by decide)⟩, fun p hp => by have := g2 p hp; omega⟩
theorem CM_up {n' : Int} (h : CM n s) (hn : n ≤ n') : CM n' s := fun f f0 f6 => by have := h f f0 f6; omega
theorem MS_up {n' : Int} (h : MS n s t K Sh V W) (hn : n ≤ n') : MS n' s t K Sh V W := ⟨h.1, ⟨h.2.1.1, CM_up h.2.1.2 hn⟩, h.2.2⟩
/-- over what changes nothing that is kept -/
theorem MS_x (h : MS n s t K Sh V W) (hx : SX ey ef s w) (hy : ∀ y, y ∈ msN → y ∉ ey) (hf : ∀ y, y ∈ msR → y ∉ ef) : MS n w t K Sh V W := by
  obtain ⟨⟨a1, a2, a3, a4⟩, ⟨b1, b2⟩, ⟨c1, c2⟩, -⟩ := id h
  have e8 := hx.1 8 (by decide) (hy 8 (by decide))
  have m1 : ∀ y, y ∈ mgN → y ∈ msN := by decide
  have m2 : ∀ y, y ∈ mgR → y ∈ msR := by decide
  exact MS_g h hx (fun y q => hy y (m1 y q)) (fun y q => hf y (m2 y q)) (a1.x hx ⟨hy 2 (by decide), hy 8 (by decide), hy 15 (by decide), hy 16 (by decide)⟩ ⟨hf 9 (by decide), hf 10 (by decide), hf 11 (by decide), hf 12 (by decide), hf 13 (by decide), hf 14 (by decide)⟩) (KIs_x a2 hx (hy 2 (by decide)) ⟨hf 4 (by decide), hf 5 (by decide), hf 6 (by decide), hf 7 (by decide)⟩) (BX_x b1 hx (hy 71 (by decide)) (hf 72 (by decide)) (by omega)) (b2.x hx (hf 1 (by decide))) (c2.x hx (hy 2 (by decide)) ⟨hf 37 (by decide), hf 38 (by decide), hf 39 (by decide), hf 40 (by decide)⟩)
/-- a finding more -/
theorem MS_mt {f : Int} (h : MS n s t K Sh V W) (hf : 0 ≤ f ∧ f < 6) : MS (n + 1) (mtU s f) t K Sh V W := by
  obtain ⟨⟨a1, a2, a3, a4⟩, ⟨b1, b2⟩, ⟨c1, c2⟩, -⟩ := id h
  have hx : SX [0] [1] s (mtU s f) := SX.eq (ys := [0]) (fs := [1]) (eqx_ua (eqx_us eqx.rf (by decide)) (by decide)) (by decide) (by decide)
  refine MS_g h hx (by decide) (by decide) (a1.x hx (by decide) (by decide)) (KIs_x a2 hx (by decide) (by decide)) (BX_x b1 hx (by decide) (by decide) (Int.le_refl _)) (fun g g0 g6 => ?_) (c2.x hx (by decide) (by decide))
  have h1 := b2 g g0 g6
  show 0 ≤ (if (1 : Nat) = 1 ∧ g = f then s.2 1 f + 1 else s.2 1 g) ∧ (if (1 : Nat) = 1 ∧ g = f then s.2 1 f + 1 else s.2 1 g) ≤ n + 1
  by_cases q : g = f
  · rw [if_pos ⟨rfl, q⟩, ← q]; omega
  · rw [if_neg (fun z => q z.2)]; omega
/-- over an act -/
theorem MS_act (h : MS n s t K Sh V W) (hx : SX [8, 15, 16, 24, 35] [9, 10, 11, 12, 13, 14, 25, 26, 27, 28, 29] s v) (h8 : s.1 8 ≤ v.1 8) (hA : AFT v t') (hN : NV v ∧ NVK v K') (hK : KL v K') (h35 : v.1 35 ≠ 0) : MS n v t' K' Sh V W := by
  obtain ⟨⟨a1, a2, a3, a4⟩, ⟨b1, b2⟩, ⟨c1, c2⟩, ⟨d1, d2⟩, ⟨e1, e2⟩, g1, g2⟩ := h
  have hB := hA.1.2.2.2.2.1
  exact ⟨⟨hA, KIs_x a2 hx (by decide) (by decide), hN⟩, ⟨BX_x b1 hx (by decide) (by decide) h8, b2.x hx (by decide)⟩, ⟨hK, c2.x hx (by decide) (by decide)⟩, FBK_x d1 hx (by decide) d2 ⟨h8, hB.2⟩, ⟨VK_x e1 hx (by decide) (by decide) h8, fun _ w => absurd w h35⟩, WLs_x g1 hx (by decide) (by decide), fun p hp => by have := g2 p hp; omega⟩
end
